/-! putChunk of the class -/
abbrev FWc (s : Nat) (x y : St) : Prop := FX (fun o k => o = 45 ∧ (k = 11 ∨ k = 12) ∨ (o = 55 ∨ o = 58 ∨ o = s ∨ o = 52 ∨ o = 49) ∧ (k = 1 ∨ k = 2 ∨ k = 5 ∨ k = 6)) (fun o k => o = 45 ∧ (k = 13 ∨ k = 14)) (fun o k => o = 45 ∧ (k = 3 ∨ k = 4)) (fun a => a = 61 ∨ a = 62 ∨ a = 63 ∨ a = 65 ∨ a = 69 ∨ a = stC 55 4 ∨ a = stC 58 4) (fun a => a = 64 ∨ a = 66 ∨ a = 67) (fun o => o = 55 ∨ o = 58 ∨ o = s ∨ o = 52 ∨ o = 49) x y
theorem id49 : SnkId 49 := by unfold SnkId; decide
theorem fwcS {s : Nat} (hs : SnkId s) : ∀ t, (t = 55 ∨ t = 58 ∨ t = s ∨ t = 52 ∨ t = 49) → SnkId t := fun t z => by
  rcases z with z | z | z | z | z
  · rw [z]; unfold SnkId; decide
  · rw [z]; unfold SnkId; decide
  · rw [z]; exact hs
  · rw [z]; exact id52
  · rw [z]; exact id49
theorem FWc.trans {s : Nat} {x y z : St} (hs : SnkId s) (h : FWc s x y) (k : FWc s y z) : FWc s x z := FX.trans fb1 (by decide) (fwcS hs) h k
theorem FCk.w {s : Nat} {x y : St} (hs : SnkId s) (h : FCk s x y) : FWc s x y := h.mono (fwcS hs) fb1 (fun _ _ z => by omega) (fun _ _ z => z) (fun _ _ z => z) (fun _ z => z) (fun _ z => z) (fun _ z => by omega)
theorem FK.w49 {s : Nat} {x y : St} (hs : SnkId s) (h : FK 49 x y) : FWc s x y := h.mono (fwcS hs) (fun _ _ => id) (fun _ _ z => Or.inr ⟨by omega, z.2⟩) (fun _ _ z => z.elim) (fun _ _ z => z.elim) (fun _ z => z.elim) (fun _ z => z.elim) (fun _ z => by omega)
theorem stRow.w {r s : Nat} {x y : St} (h : stRow r) (hn : r < 61 ∨ 69 < r) (hs : SnkId s) (hK : SkS x) (f : FWc s x y) : fA y r = fA x r ∧ fN y r = fN x r := by
  refine f.2.2.2.1 r (Or.inl h.1) (fun z => ?_) (fun t ht => stRow_ne (fwcS hs t ht) hK h)
  rcases z with z | z | z | z | z | z | z
  · omega
  · omega
  · omega
  · omega
  · omega
  · exact h.2.2 55 (by unfold SnkId; decide) z
  · exact h.2.2 58 (by unfold SnkId; decide) z
theorem FWc.n {s r : Nat} {x y : St} (f : FWc s x y) (h : r < 152) : fN y r = fN x r := f.2.2.2.2.2.1 r h
theorem FWc.r {s k : Nat} {x y : St} (hs : SnkId s) (f : FWc s x y) (h : k ≠ 3 ∧ k ≠ 4) : fR y 45 k = fR x 45 k := f.2.2.1 45 k (fun z => by omega) (fun z => by have := (snk45 hs).1; omega)
theorem EnW.w {s : Nat} {x y : St} {E : List SEn} {ty : Nat} {l : List Nat} (hs : SnkId s) (hK : SkS x) (f : FWc s x y) (h : EnW x E ty l) : EnW y E ty l := fun i hi => by
  obtain ⟨h1, h2, h3, h4, h5, h6⟩ := h i hi
  refine ⟨h1, ?_, ?_, h4, h5, ?_⟩
  · rw [(st37.w (by decide) hs hK f).1]; exact h2
  · rw [(st38.w (by decide) hs hK f).1]; exact h3
  · rw [show fL y 39 = fL x 39 from f.2.2.2.2.1 39 (by decide)]
    have e := st42.w (by decide) hs hK f
    unfold RfC at h6 ⊢
    rw [e.1, e.2]
    exact h6
theorem CkI.w {x y : St} {s sc c f ty mr md : Nat} {E : List SEn} {VL : Nat → Int64} {Z : List Nat} (hs : SnkId s) (hK : SkS x) (g : FWc s x y) (h : CkI x s sc c f ty mr md E VL Z) : CkI y s sc c f ty mr md E VL Z := by
  obtain ⟨h1, h2, h3, ⟨s1, s2, s3, s4, s5, s6, s7, s8, s9, s10, s11, s12, s13, s14, s15⟩, ⟨r1, r2, r3, r4, r5⟩, h6, h7, h8, h9⟩ := h
  have e10 := r1.w s4 hs hK g
  have e3 := r2.w s5 hs hK g
  have e5 := r3.w r5 hs hK g
  have e6 := r4.w s6 hs hK g
  refine ⟨fun r hr => (g.n hr).trans (h1 r hr), (g.r hs (by decide)).trans h2, (g.r hs (by decide)).trans h3, ⟨(g.r hs (by decide)).trans s1, s2, s3, s4, s5, s6, s7, s8, s9, e10.2.trans s10, e3.2.trans s11, e6.2.trans s12, by rw [e10.1]; exact s13, by rw [e3.1]; exact s14, by rw [e6.1]; exact s15⟩, ⟨r1, r2, r3, r4, r5⟩, e5.2.trans h6, by rw [e5.1]; exact h7, h8.w hs hK g, ?_⟩
  rw [show fL y 39 = fL x 39 from g.2.2.2.2.1 39 (by decide)]
  exact h9
theorem TbI.k49 {x y : St} {t b : Nat} (htb : TB t b) (hK : SkS x) (h : TbI x t b) (f : FK 49 x y) : TbI y t b := by
  obtain ⟨h1, h2, h3, h4, h5, h6, h7, h8, h9⟩ := h
  have tb : t = 55 ∧ b = 58 ∨ t = 58 ∧ b = 55 := htb
  have fi : ∀ u k, u ≠ 49 → fI y u k = fI x u k := fun u k hu => f.1 u k (fun z => hu z.1)
  exact ⟨(f.2.2.1 45 3 id (fun z => absurd z.1 (by decide))).trans h1, (f.2.2.1 45 4 id (fun z => absurd z.1 (by decide))).trans h2, fun i hi => by rw [(st68.keep id49 hK f).1]; exact h3 i hi, (fi _ _ (by omega)).trans h4, (fi _ _ (by omega)).trans h5, (fi _ _ (by omega)).trans h6, (fi _ _ (by omega)).trans h7, (fi _ _ (by omega)).trans h8, (fi _ _ (by omega)).trans h9⟩
theorem bnd_is2 {ty : Nat} {P : List PV} (ok : ∀ i, i < P.length → okVv ty (pvd P i)) (h : P.length ≠ 0) {a b : PV} (ha : IsMn ty P a) (hb : IsMx ty P b) : bndB ty P = toldB ty a ++ toldB ty b := by
  have q := mn_is (ty := ty) (P := P) ok (P.length - 1) (by omega)
  rw [show P.length - 1 + 1 = P.length by omega, List.take_length] at q
  unfold bndB
  rw [if_neg h, q.1.un ha, q.2.un hb]
/-- the footer's word of a chunk -/
theorem k_tail {κ : Nat → Nat} {ty md n m : Nat} {E : List SEn} {VL : Nat → Int64} {L Z D : List Nat} {l9 l11 : Int64} (hty : ty < 4) (hLo : LoHi E VL ty md L l9 l11) (hZ : ∀ i, i ∈ Z → okI ty E i) (hL : ∀ i, i ∈ L → i ∈ Z) (hLl : L.length ≤ 10000) (hn : n < 2 ^ 30) (hm : m < 2 ^ 30) (hκ : ∀ t, SnkId t → κ t ≤ roomOf t) :
    ∃ κ', Kle κ κ' ∧ ∀ (x : St) (post : Int32 → St → Prop) (s c a : Nat) (l2 l3 l13 l14 : Int32) kb nb, SkS x → Caps x κ → Snk x 49 D → fR x 45 0 = some s → fI x s 1 = nI (a + n) → fR x 45 6 = some 36 → EnW x E ty Z → fL x 39 = VL → KP κ ≤ kb + KP κ' → NP κ ≤ nb + NP κ' →
      (∀ y, SkS y → Caps y κ' → FK 49 x y → Snk y 49 (D ++ chBX ty md n m (L.map (en E))) → post (if 40000 < (D ++ chBX ty md n m (L.map (en E))).length then 0 else 1) y) →
      j_Wrt_putChunk_200 post 45 (nI c) l2 l3 (nI ty) (nI a) (nI m) (nI L.length) (nI (vs E md L).length) l9 l11 l13 l14 kb nb x := by
  have vle := vs_le (E := E) (md := md) (es := L)
  have trv : ∀ x y : St, SkS x → FK 49 x y → True → True := fun _ _ _ _ _ => trivial
  have up : ∀ {κ κ1 : Nat → Nat}, Kle κ κ1 → ∀ t, SnkId t → κ1 t ≤ roomOf t := fun m t ht => (m t ht).2
  obtain ⟨κ1, m1, f1⟩ := (k_varint (κ := κ) (s := 49) (B := D) (v := lN n) (Pre := fun _ => True) id49 trv hκ).k
  obtain ⟨κ2, m2, f2⟩ := (k_varint (κ := κ1) (s := 49) (B := D ++ varB (uL (lN n))) (v := lN m) (Pre := fun _ => True) id49 trv (up m1)).k
  obtain ⟨κ3, m3, f3⟩ := (k_varint (κ := κ2) (s := 49) (B := D ++ varB (uL (lN n)) ++ varB (uL (lN m))) (v := lN L.length) (Pre := fun _ => True) id49 trv (up m2)).k
  obtain ⟨κ4, m4, f4⟩ := (k_varint (κ := κ3) (s := 49) (B := D ++ varB (uL (lN n)) ++ varB (uL (lN m)) ++ varB (uL (lN L.length))) (v := lN (L.length - (vs E md L).length)) (Pre := fun _ => True) id49 trv (up m3)).k
  have fin : ∀ {y : St} {post : Int32 → St → Prop} {c l2 l3 l4 l5 l6 l7 l8 l13 l14 : Int32} {l9 l11 : Int64} {W : List Nat} (kb nb : Nat), Snk y 49 W → post (if 40000 < W.length then 0 else 1) y → j_Wrt_putChunk_292 post 45 c l2 l3 l4 l5 l6 l7 l8 l9 l11 l13 l14 kb nb y := by
    intro y post c l2 l3 l4 l5 l6 l7 l8 l13 l14 l9 l11 W kb nb h p
    unfold j_Wrt_putChunk_292
    rw [show stC 45 1 = 49 from by decide +kernel]
    have r49 : roomOf 49 = 40000 := by decide
    by_cases w : 40000 < W.length
    · rw [if_pos w] at p
      have ov : fI y 49 2 = 1 := by
        rcases h.2.2 with z | z
        · omega
        · exact z.2.1
      exact ⟨fun _ => p, fun z => absurd (ov.symm.trans z) (by decide)⟩
    · rw [if_neg w] at p
      have ov : fI y 49 2 = 0 := by
        rcases h.2.2 with z | z
        · exact z.2.2.2.1
        · omega
      exact ⟨fun z => absurd ov z, fun _ => p⟩
  have e3 : (L.map (en E)).length = L.length := List.length_map _
  have e4 : (pvX md (L.map (en E))).length = (vs E md L).length := vs_len.symm
  by_cases c0 : (vs E md L).length = 0
  · refine ⟨κ4, m1.trans (m2.trans (m3.trans m4)), fun x post s c a l2 l3 l13 l14 kb nb hK hC hD r0 i1 r6 hE hV hk hn p => ?_⟩
    unfold j_Wrt_putChunk_200
    rw [show stC 45 1 = 49 from by decide +kernel]
    refine ⟨s, r0, ?_⟩
    rw [i1, show nI (a + n) - nI a = nI n from by rw [nI_sub (by omega), show a + n - a = n by omega], show (nI n).toInt64 = lN n from nI_l (by omega), show (nI m).toInt64 = lN m from nI_l (by omega), show (nI L.length).toInt64 = lN L.length from nI_l (by omega), nI_sub vle, show (nI (L.length - (vs E md L).length)).toInt64 = lN (L.length - (vs E md L).length) from nI_l (by omega)]
    refine f1 κ4 (m2.trans (m3.trans m4)) x _ kb nb hK hC hD trivial hk hn (fun y1 k1 n1 s1 c1 t1 a1 bk1 bn1 => ?_)
    refine f2 κ4 (m3.trans m4) y1 _ k1 n1 s1 c1 a1 trivial bk1 bn1 (fun y2 k2 n2 s2 c2 t2 a2 bk2 bn2 => ?_)
    refine f3 κ4 m4 y2 _ k2 n2 s2 c2 a2 trivial bk2 bn2 (fun y3 k3 n3 s3 c3 t3 a3 bk3 bn3 => ?_)
    refine f4 κ4 (Kle.refl (up m4)) y3 _ k3 n3 s3 c3 a3 trivial bk3 bn3 (fun y4 k4 n4 s4 c4 t4 a4 bk4 bn4 => ?_)
    refine br_t (by rw [c0]; decide) ?_
    have ea : D ++ varB (uL (lN n)) ++ varB (uL (lN m)) ++ varB (uL (lN L.length)) ++ varB (uL (lN (L.length - (vs E md L).length))) = D ++ chBX ty md n m (L.map (en E)) := by
      rw [uL_lN (by omega), uL_lN (by omega), uL_lN (by omega), uL_lN (by omega)]
      unfold chBX bndB
      rw [e3, e4, if_pos c0, List.append_nil]
      simp only [List.append_assoc]
    rw [ea] at a4
    exact fin _ _ a4 (p y4 s4 c4 (FK.trans id49 t1 (FK.trans id49 t2 (FK.trans id49 t3 t4))) a4)
  · obtain ⟨lo, hi, o1, o2, o3, o4, o5, o6⟩ := hLo c0
    have zl := hL _ (List.mem_filter.mp o1).1
    have zh := hL _ (List.mem_filter.mp o2).1
    obtain ⟨κ5, m5, f5⟩ := (k_putTold (κ := κ4) (s := 49) (r := 42) (ty := ty) (v := VL lo) (p := pvI E lo) (B := D ++ varB (uL (lN n)) ++ varB (uL (lN m)) ++ varB (uL (lN L.length)) ++ varB (uL (lN (L.length - (vs E md L).length)))) id49 st42 hty (up m4)).k
    obtain ⟨κ6, m6, f6⟩ := (k_putTold (κ := κ5) (s := 49) (r := 42) (ty := ty) (v := VL hi) (p := pvI E hi) (B := D ++ varB (uL (lN n)) ++ varB (uL (lN m)) ++ varB (uL (lN L.length)) ++ varB (uL (lN (L.length - (vs E md L).length))) ++ toldB ty (pvI E lo)) id49 st42 hty (up m5)).k
    refine ⟨κ6, m1.trans (m2.trans (m3.trans (m4.trans (m5.trans m6)))), fun x post s c a l2 l3 l13 l14 kb nb hK hC hD r0 i1 r6 hE hV hk hn p => ?_⟩
    unfold j_Wrt_putChunk_200
    rw [show stC 45 1 = 49 from by decide +kernel]
    refine ⟨s, r0, ?_⟩
    rw [i1, show nI (a + n) - nI a = nI n from by rw [nI_sub (by omega), show a + n - a = n by omega], show (nI n).toInt64 = lN n from nI_l (by omega), show (nI m).toInt64 = lN m from nI_l (by omega), show (nI L.length).toInt64 = lN L.length from nI_l (by omega), nI_sub vle, show (nI (L.length - (vs E md L).length)).toInt64 = lN (L.length - (vs E md L).length) from nI_l (by omega), o3, o4]
    refine f1 κ6 (m2.trans (m3.trans (m4.trans (m5.trans m6)))) x _ kb nb hK hC hD trivial hk hn (fun y1 k1 n1 s1 c1 t1 a1 bk1 bn1 => ?_)
    refine f2 κ6 (m3.trans (m4.trans (m5.trans m6))) y1 _ k1 n1 s1 c1 a1 trivial bk1 bn1 (fun y2 k2 n2 s2 c2 t2 a2 bk2 bn2 => ?_)
    refine f3 κ6 (m4.trans (m5.trans m6)) y2 _ k2 n2 s2 c2 a2 trivial bk2 bn2 (fun y3 k3 n3 s3 c3 t3 a3 bk3 bn3 => ?_)
    refine f4 κ6 (m5.trans m6) y3 _ k3 n3 s3 c3 a3 trivial bk3 bn3 (fun y4 k4 n4 s4 c4 t4 a4 bk4 bn4 => ?_)
    have T4 := FK.trans id49 t1 (FK.trans id49 t2 (FK.trans id49 t3 t4))
    have rf : ∀ y, FK 49 x y → ∀ i, i ∈ Z → RfC y 42 ty (VL i) (pvI E i) := fun y f i hi => by
      have q := (hE i hi).2.2.2.2.2
      rw [hV] at q
      exact RfC.k st42 id49 x y hK f q
    have R6 : ∀ y, FK 49 x y → fR y 45 6 = some 36 := fun y f => (f.2.2.1 45 6 id (fun z => absurd z.1 (by decide))).trans r6
    refine br_f (by (first | omega | (simp (disch := omega) only [Int32.le_iff_toInt_le, Int32.lt_iff_toInt_lt, z_eq, z_in, nI_toInt, z_cl, z_m1, z_sg, z_255, Int32.reduceToInt] <;> omega) | (simp only [Int32.le_iff_toInt_le, Int32.lt_iff_toInt_lt, z_eq, z_in, z_add, z_sub, z_mul, z_neg, z_nI, z_cl, z_sg, z_255, z_lit, Int32.reduceToInt] <;> omega))) ⟨36, R6 y4 T4, ?_⟩
    refine f5 κ6 m6 y4 _ k4 n4 s4 c4 a4 (rf y4 T4 lo zl) bk4 bn4 (fun y5 k5 n5 s5 c5 t5 a5 bk5 bn5 => ?_)
    have T5 := FK.trans id49 T4 t5
    refine ⟨36, R6 y5 T5, ?_⟩
    refine f6 κ6 (Kle.refl (up m6)) y5 _ k5 n5 s5 c5 a5 (rf y5 T5 hi zh) bk5 bn5 (fun y6 k6 n6 s6 c6 t6 a6 bk6 bn6 => ?_)
    have ea : D ++ varB (uL (lN n)) ++ varB (uL (lN m)) ++ varB (uL (lN L.length)) ++ varB (uL (lN (L.length - (vs E md L).length))) ++ toldB ty (pvI E lo) ++ toldB ty (pvI E hi) = D ++ chBX ty md n m (L.map (en E)) := by
      rw [uL_lN (by omega), uL_lN (by omega), uL_lN (by omega), uL_lN (by omega)]
      unfold chBX
      rw [e3, e4, ← pvX_map, bnd_is2 (P := pvs E (vs E md L)) (fun i hi => ?_) (by rw [pvs_len]; exact c0) o5 o6]
      · simp only [List.append_assoc]
      · rw [pvs_len] at hi
        rw [pvd_pvq hi]
        exact (hZ _ (hL _ (List.mem_filter.mp (getD_mem hi)).1)).2.1
    rw [ea] at a6
    exact fin _ _ a6 (p y6 s6 c6 (FK.trans id49 T5 t6) a6)
