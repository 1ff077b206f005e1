/-! chunks of the class: one page -/
theorem stRow.b {r : Nat} {x y : St} (h : stRow r) (hn : r ≠ 65 ∧ r ≠ 69) (hK : SkS x) (f : FB x y) : fA y r = fA x r ∧ fN y r = fN x r := by
  refine f.2.2.2.1 r (Or.inl h.1) (fun z => ?_) (fun t ht => stRow_ne (fb2 t ht) hK h)
  rcases z with z | z | z | z
  · omega
  · omega
  · exact h.2.2 55 (by unfold SnkId; decide) z
  · exact h.2.2 58 (by unfold SnkId; decide) z
theorem st61 : stRow 61 := st_of (by decide) (by decide) (by decide +kernel)
theorem pgC_of {x : St} {s t b sc c f ty mr md : Nat} {E : List SEn} {VL : Nat → Int64} {Z es : List Nat} (hI : CkI x s sc c f ty mr md E VL Z) (hT : TbI x t b) (hP : PgS x E md es) (hZ : ∀ i, i ∈ es → i ∈ Z) : PgC x t ty (fun j => VL ((vs E md es).getD j 0)) (pvs E (vs E md es)) := by
  have pl := pvs_len (E := E) (l := vs E md es)
  have vle := vs_le (E := E) (md := md) (es := es)
  have hl := hP.2.1
  have e64 : fN x 64 = 1000 := (hI.1 64 (by decide)).trans (by decide +kernel)
  refine ⟨hI.1, ⟨hT.2.1, hI.2.2.1, ⟨by omega, by omega, fun i hi => ?_⟩, fun k hk => ?_⟩, by rw [pl]; exact hP.2.2.2.1, by omega⟩
  · rw [hP.2.2.2.2 i (by omega), hI.2.2.2.2.2.2.2.2]
  · have hm : (vs E md es).getD k 0 ∈ vs E md es := getD_mem (by omega)
    have hz : (vs E md es).getD k 0 ∈ Z := hZ _ (List.mem_filter.mp hm).1
    have q := (hI.2.2.2.2.2.2.2.1 _ hz).2.2.2.2.2
    rw [hI.2.2.2.2.2.2.2.2] at q
    have e : (pvs E (vs E md es)).getD k (0, []) = pvI E ((vs E md es).getD k 0) := by
      unfold pvs
      rw [List.getD_eq_getElem?_getD, List.getElem?_map, List.getElem?_eq_getElem (by omega), List.getD_eq_getElem?_getD, List.getElem?_eq_getElem (by omega)]
      rfl
    rw [e]
    exact q
theorem k_turn {κ : Nat → Nat} {s t b sc c f ty mr md : Nat} {E : List SEn} {VL : Nat → Int64} {Z es B : List Nat} (hs : SnkId s) (hsn : s ≠ 52 ∧ s ≠ 55 ∧ s ≠ 58) (htb : TB t b) (hty : ty < 4) (hP : okP ty (pvs E (vs E md es))) (hl : es.length ≤ 1000) (ho : oF (pvs E (vs E md es)) (pvs E (vs E md es)).length ≤ 20000) (hmr : mr ≤ 17) (hmd : md ≤ 17) (hZ : ∀ i, i ∈ es → i ∈ Z) (hκ : ∀ t, SnkId t → κ t ≤ roomOf t) :
    ∃ κ', Kle κ κ' ∧ ∃ t' b', TB t' b' ∧ ∀ κ2, Kle κ' κ2 → ∀ (x : St) (post : Nat → Nat → St → Prop) kb nb, SkS x → Caps x κ → CkI x s sc c f ty mr md E VL Z → PgS x E md es → TbI x t b → Snk x s B → KP κ ≤ kb + KP κ2 → NP κ ≤ nb + NP κ2 →
      (∀ y k n, SkS y → Caps y κ' → FCk s x y → CkI y s sc c f ty mr md E VL Z → TbI y t' b' → fA y 61 = fA x 61 → Snk y s (B ++ pgX ty mr md (es.map (en E))) → fI y 45 11 = nI es.length → fI y 45 12 = nI (vs E md es).length → ((vs E md es).length ≠ 0 → fJ y 45 13 = VL ((vs E md es).getD (mnF ty (pvs E (vs E md es)) ((vs E md es).length - 1)) 0) ∧ fJ y 45 14 = VL ((vs E md es).getD (mxF ty (pvs E (vs E md es)) ((vs E md es).length - 1)) 0)) → KP κ' ≤ k + KP κ2 → NP κ' ≤ n + NP κ2 → post k n y) →
      ∃ k1 n1 k2 n2 : Nat, k1 + k2 = kb ∧ n1 + n2 = nb ∧ wp_Wrt_chooseCoding (fun r y => ∃ k3 n3 k4 n4 : Nat, k3 + k4 = k2 ∧ n3 + n4 = n2 ∧ wp_Wrt_putPage (fun z => post k4 n4 z) 45 (nI c) r k3 n3 y) 45 (nI ty) k1 n1 x := by
  have pl := pvs_len (E := E) (l := vs E md es)
  have vle := vs_le (E := E) (md := md) (es := es)
  obtain ⟨κ1, m1, t', b', htb', f1⟩ := k_choose (κ := κ) (V := fun j => VL ((vs E md es).getD j 0)) hty hP (by omega) (fun _ => ho) htb hκ
  have tb : t' = 55 ∧ b' = 58 ∨ t' = 58 ∧ b' = 55 := htb'
  obtain ⟨κ3, m3, f3⟩ := k_page (κ := κ1) (s := s) (t := t') (b := b') (sc := sc) (c := c) (f := f) (ty := ty) (mr := mr) (md := md) (E := es.length) (Rp := fun k => nI (en E (es.getD k 0)).2.1) (Df := fun k => nI (en E (es.getD k 0)).2.2.1) (V := fun j => VL ((vs E md es).getD j 0)) (P := pvs E (vs E md es)) (B := B) hs htb' hsn.1 (by omega) hty hP (by omega) ho hmr hmd hl (by omega) (fun t ht => (m1 t ht).2)
  refine ⟨κ3, m1.trans m3, t', b', htb', fun κ2 m2 x post kb nb hK hC hI hS hT hB hk hn p => ?_⟩
  refine bseq m1 (m3.trans m2) hk hn (fun k1 n1 k2 n2 a1 a2 a3 a4 => ?_)
  have hg := pgC_of hI hT hS hZ
  refine f1 x _ k1 n1 hK hC ⟨hg, hT.2.2.1, hT.1, hT.2.2.2.1, hT.2.2.2.2.1, hT.2.2.2.2.2.1, hT.2.2.2.2.2.2.1, fun z => absurd rfl z⟩ a1 a2 (fun y y1 y2 y3 y4 => ?_)
  refine bseq m3 m2 a3 a4 (fun k3 n3 k4 n4 b1 b2 b3 b4 => ?_)
  have Iy := hI.k hs hK (y3.ck hs)
  obtain ⟨j1, j2, j3, ⟨s1, s2, s3, s4, s5, s6, s7, s8, s9, s10, s11, s12, s13, s14, s15⟩, ⟨r1, r2, r3, r4, r5⟩, j6, j7, j8, j9⟩ := id Iy
  obtain ⟨c1, c2, c3, c4, c5, c6, c7, c8⟩ := y4
  have hn4 : nCod ty ≠ 0 := by unfold nCod; split; decide; split <;> decide
  have e62 := st62.b (by decide) hK y3
  have e63 := st63.b (by decide) hK y3
  have e61 := st61.b (by decide) hK y3
  have N62 : fN x 62 = 1000 := (hI.1 62 (by decide)).trans (by decide +kernel)
  have N63 : fN x 63 = 1000 := (hI.1 63 (by decide)).trans (by decide +kernel)
  have i11 : fI y 45 11 = nI es.length := (y3.1 45 11 (by decide)).trans hS.1
  have i52a : fI y 52 5 = 0 := (y3.1 52 5 (by decide)).trans hT.2.2.2.2.2.2.2.1
  have i52b : fI y 52 6 = 0 := (y3.1 52 6 (by decide)).trans hT.2.2.2.2.2.2.2.2
  have sB : Snk y s B := hB.fr hK hs y3 (fun k _ z => by omega) (fb1 s hs) (by omega) (fun q hq z => by
    rcases z with z | z | z | z
    · rw [z] at hq; unfold skRow at hq; omega
    · rw [z] at hq; unfold skRow at hq; omega
    · rw [z] at hq; revert hq; unfold skRow; decide +kernel
    · rw [z] at hq; revert hq; unfold skRow; decide +kernel) fb2
  have vb : Snk y b' (valB ty (cod ty (pvs E (vs E md es))) (pvs E (vs E md es))) := c8 hn4
  have hp : PsC y s b' sc c f ty mr md (fun k => nI (en E (es.getD k 0)).2.1) (fun k => nI (en E (es.getD k 0)).2.2.1) es.length := ⟨j2, c3, s1, s2, s3, r1, r2, r3, r4, s10, s11, j6, s12, s13, s14, j7, s15, ⟨by rw [e62.2]; omega, by rw [e62.2]; omega, fun i hi => by rw [e62.1]; exact (hS.2.2.1 i hi).1⟩, ⟨by rw [e63.2]; omega, by rw [e63.2]; omega, fun i hi => by rw [e63.1]; exact (hS.2.2.1 i hi).2⟩, i11⟩
  refine f3 y _ k3 n3 y1 y2 sB c1 hp vb i52a i52b b1 b2 (fun z z1 z2 z3 z4 z5 z6 z7 z8 => ?_)
  have h45 : ¬ (45 = s ∨ 45 = 52) := fun w => by have := (snk45 hs).1; omega
  have zt := z7 t' htb'.s (by omega) (by omega)
  have Iz := Iy.k hs y1 (z3.ck hs)
  have fg : ∀ u k, (u = t' ∨ u = b') → fI z u k = fI y u k := fun u k hu => z3.1 u k (fun w => by omega)
  refine p z k4 n4 z1 z2 (FCk.trans hs (y3.ck hs) (z3.ck hs)) Iz ⟨(z3.2.2.1 45 3 id (fun w => h45 w.1)).trans c3, (z3.2.2.1 45 4 id (fun w => h45 w.1)).trans c1.2.1.1, fun i hi => ?_, (fg _ _ (Or.inl rfl)).trans c4, (fg _ _ (Or.inl rfl)).trans c5, (fg _ _ (Or.inr rfl)).trans c6, (fg _ _ (Or.inr rfl)).trans c7, z5, z6⟩ ?_ ?_ ((z3.1 45 11 (fun w => h45 w.1)).trans i11) ?_ (fun w => ?_) b3 b4
  · rw [(st68.p hs y1 z3).1]; exact c2 i hi
  · rw [(st61.p hs y1 z3).1, e61.1]
  · rw [← pgX_map]; exact z4
  · rw [← pl]; exact (z3.1 45 12 (fun w => h45 w.1)).trans c1.2.2.1
  · have := z8 (by omega)
    rw [pl] at this
    exact this
