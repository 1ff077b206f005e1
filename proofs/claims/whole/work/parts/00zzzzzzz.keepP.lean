/-! the Opener keeps the entries of a page -/
/-- the least and the greatest of values, as longs -/
def BdC (y : St) (b ty : Nat) (V : List PV) (v w : Int64) : Prop := V ≠ [] → ∃ lo hi, RfP y b ty v lo ∧ IsMn ty V lo ∧ RfP y b ty w hi ∧ IsMx ty V hi
theorem RfP.ofK {x : St} {b ty : Nat} {v : Int64} {p q : PV} (h : RfP x b ty v p) (e : kv ty p = kv ty q) : RfP x b ty v q := by
  unfold kv at e
  by_cases c : ty = 3
  · rw [if_pos c, if_pos c] at e
    have e2 : p.2 = q.2 := (Prod.mk.inj e).2
    refine ⟨fun z => absurd c z, fun _ => ?_⟩
    rw [← e2]
    exact h.2 c
  · rw [if_neg c, if_neg c] at e
    have e1 : p.1 = q.1 := (Prod.mk.inj e).1
    exact ⟨fun z => (h.1 z).trans e1, fun z => absurd z c⟩
theorem BdC.up {x y : St} {b c ty : Nat} {V : List PV} {v w : Int64} (h : BdC x b ty V v w) (e : ∀ i, i < b → fA y 82 i = fA x 82 i) (hb : b ≤ c) : BdC y c ty V v w := fun z => by
  obtain ⟨lo, hi, h1, h2, h3, h4⟩ := h z
  exact ⟨lo, hi, h1.up e hb, h2, h3.up e hb, h4⟩
theorem nR_mono {E : List SEn} {k m : Nat} (h : k ≤ m) : nR (E.take k) ≤ nR (E.take m) := by
  have e : (E.take m).take k = E.take k := by rw [List.take_take, Nat.min_eq_left h]
  have := List.take_append_drop k (E.take m)
  rw [← this, nR_app, e]
  omega
section
variable {x y z : St} {F : List SFd} {c b : Nat}
theorem col79 (hR : RepC x 70 F) (hc : c < ncol F) : fA x 79 c = nI (lfC F c) := by
  obtain ⟨l1, l2, l3⟩ := lfC_ok hc
  have := hR.2.2.2.2 _ l1 l2
  have e : ncol (F.take (lfC F c)) = c := l3
  rw [e] at this
  exact this
theorem col72 (hw : WfS F) (hR : RepC x 70 F) (hc : c < ncol F) : fA x 72 (lfC F c) = nI (tyC F c) := by
  obtain ⟨l1, l2, l3⟩ := lfC_ok hc
  rw [show fA x 72 (lfC F c) = fTy F (lfC F c) from (hR.2.2.2.1 _ l1).2.1]
  exact (ty_lt hw hc).2
theorem col74 (hR : RepC x 70 F) (hc : c < ncol F) : fA x 74 (lfC F c) = nI (mrC F c) := (hR.2.2.2.1 _ (lfC_ok hc).1).2.2.2.1
theorem col75 (hR : RepC x 70 F) (hc : c < ncol F) : fA x 75 (lfC F c) = nI (mdC F c) := (hR.2.2.2.1 _ (lfC_ok hc).1).2.2.2.2.1
theorem RepC.cg7 (hR : RepC x 70 F) (e0 : fI y 70 0 = fI x 70 0) (e1 : fI y 70 1 = fI x 70 1) (eA : ∀ r, 71 ≤ r → r ≤ 81 → fA y r = fA x r) : RepC y 70 F := by
  obtain ⟨h0, h1, h2, h3, h4⟩ := hR
  refine ⟨e0.trans h0, e1.trans h1, h2, fun f hf => ?_, fun f hf ht => ?_⟩
  · rw [show stC 70 2 = 71 from rfl, show stC 70 3 = 72 from rfl, show stC 70 4 = 73 from rfl, show stC 70 5 = 74 from rfl, show stC 70 6 = 75 from rfl, show stC 70 7 = 76 from rfl, show stC 70 8 = 77 from rfl, show stC 70 9 = 78 from rfl, show stC 70 11 = 80 from rfl, show stC 70 12 = 81 from rfl, eA 71 (by decide) (by decide), eA 72 (by decide) (by decide), eA 73 (by decide) (by decide), eA 74 (by decide) (by decide), eA 75 (by decide) (by decide), eA 76 (by decide) (by decide), eA 77 (by decide) (by decide), eA 78 (by decide) (by decide), eA 80 (by decide) (by decide), eA 81 (by decide) (by decide)]
    exact h3 f hf
  · rw [show stC 70 10 = 79 from rfl, eA 79 (by decide) (by decide)]
    exact h4 f hf ht
theorem k_hasV {post : Int32 → St → Prop} {e d : Nat} (hL : LC x) (hw : WfS F) (hR : RepC x 70 F) (hc : c < ncol F) (he : e < 11001) (hd : fA x 84 e = nI d) (hd2 : d ≤ 127) (p1 : d = mdC F c → post 1 x) (p0 : d ≠ mdC F c → post 0 x) : wp_Vlt_hasValue post 97 (nI e) (nI c) x := by
  obtain ⟨l1, l2, l3⟩ := lfC_ok hc
  have h128 := hw.1
  have h64 := hw.2.1
  have l17 := lv17 hw hc
  unfold wp_Vlt_hasValue
  rw [show stC 97 8 = 84 from rfl, show stC (stC 97 5) 10 = 79 from rfl, show stC (stC 97 5) 6 = 75 from rfl, show fN x 84 = 11001 from hL 84 (by decide), show fN x 79 = 64 from hL 79 (by decide), show fN x 75 = 128 from hL 75 (by decide), rA_nI (by omega : c < 2 ^ 31), col79 hR hc, rA_nI (by omega : lfC F c < 2 ^ 31), col75 hR hc, rA_nI (by omega : e < 2 ^ 31), hd]
  refine ⟨vp_in_nI he (by decide), vp_in_nI (by omega) (by decide), vp_in_nI (by omega) (by decide), ?_⟩
  by_cases cc : d = mdC F c
  · exact bn_t (by rw [cc]) (p1 cc)
  · exact bn_f (fun z => cc (nI_inj (by omega) (by omega) z)) (p0 cc)
abbrev FrKl (x y : St) : Prop := Fg (fun a k => a = 96 ∧ k = 12) no2 no2 (fun a => a = 86) (fun a => a = 85) x y
theorem k_keepL {post : St → Prop} {m E g G0 rh cr : Nat} {R D : List Nat} {P : List PV} {l2 l3 l4 : Int32} (hL : LC x) (hw : WfS F) (hR : RepC x 70 F) (hc : c < ncol F) (hE : fI x 97 4 = nI E) (hE2 : E + m ≤ 10000) (hm : D.length = m) (hrow : ∀ i, i < m → fA x 83 (E + i) = nI (R.getD i 0) ∧ fA x 84 (E + i) = nI (D.getD i 0)) (hd : ∀ i, i < m → D.getD i 0 ≤ 17) (hr : ∀ i, i < m → R.getD i 0 ≤ 17) (hP : hvN (mdC F c) D ≤ 2000) (hcr : fI x 96 12 = nI cr) (hcr2 : cr ≤ 10000) (hg : g < 501) (hG0 : fA x 87 g = nI G0) (hG2 : G0 + rh ≤ 2000)
    (k : ∀ y, FrKl x y → fI y 96 12 = nI (cr + nR (entL c (mdC F c) R D P)) → (∀ i, i < E → fL y 85 i = fL x 85 i) → (∀ i, i < m → fL y 85 (E + i) = if D.getD i 0 = mdC F c then fL x 101 (hvN (mdC F c) (D.take i)) else 0) → (∀ i, i < m → R.getD i 0 = 0 → cr + nR ((entL c (mdC F c) R D P).take i) < rh → (G0 + (cr + nR ((entL c (mdC F c) R D P).take i))) * ncol F + c < 10000 → fA y 86 ((G0 + (cr + nR ((entL c (mdC F c) R D P).take i))) * ncol F + c) = nI (E + i)) → (∀ a, (∀ j, cr ≤ j → j < rh → a ≠ (G0 + j) * ncol F + c) → fA y 86 a = fA x 86 a) → j_Opn_keepPage_81 post (fun _ _ _ _ _ _ _ _ _ _ _ => False) 96 (nI c) l2 l3 l4 (nI m) (nI g) (nI rh) (nI (hvN (mdC F c) D)) (nI (E + m)) y) : ∃ nn, wl_Opn_keepPage_81 post nn 96 (nI c) l2 l3 l4 (nI m) (nI g) (nI rh) 0 (nI E) x := by
  have h64 := hw.2.1
  have L83 : fN x 83 = 11001 := hL 83 (by decide)
  have L85 : fN x 85 = 11001 := hL 85 (by decide)
  have L86 : fN x 86 = 10000 := hL 86 (by decide)
  have L87 : fN x 87 = 501 := hL 87 (by decide)
  have L101 : fN x 101 = 2000 := hL 101 (by decide)
  obtain ⟨N, hN⟩ : ∃ N, N = ncol F := ⟨_, rfl⟩
  have c1 : fI x 70 1 = nI N := by rw [hN]; exact hR.2.1
  rw [← hN] at k h64
  generalize hLL : entL c (mdC F c) R D P = L at *
  have lL : L.length = m := by rw [← hLL, entL_len, hm]
  refine lp_Opn_keepPage_81 (fun a0 a1 a2 a3 a4 a5 a6 a7 a8 a9 y => 96 = a0 ∧ nI c = a1 ∧ l2 = a2 ∧ l3 = a3 ∧ l4 = a4 ∧ nI m = a5 ∧ nI g = a6 ∧ nI rh = a7 ∧ ∃ k, nI (E + k) = a9 ∧ k ≤ m ∧ nI (hvN (mdC F c) (D.take k)) = a8 ∧ FrKl x y ∧ fI y 96 12 = nI (cr + nR (L.take k)) ∧ (∀ i, i < E → fL y 85 i = fL x 85 i) ∧ (∀ i, i < k → fL y 85 (E + i) = if D.getD i 0 = mdC F c then fL x 101 (hvN (mdC F c) (D.take i)) else 0) ∧ (∀ i, i < k → R.getD i 0 = 0 → cr + nR (L.take i) < rh → (G0 + (cr + nR (L.take i))) * N + c < 10000 → fA y 86 ((G0 + (cr + nR (L.take i))) * N + c) = nI (E + i)) ∧ (∀ a, (∀ j, cr ≤ j → j < rh → a ≠ (G0 + j) * N + c) → fA y 86 a = fA x 86 a)) (fun _ _ _ _ _ _ _ _ _ a9 _ => E + m - a9.toNatClampNeg) ?_ _ _ _ _ _ _ _ _ _ _ _ ⟨rfl, rfl, rfl, rfl, rfl, rfl, rfl, rfl, 0, rfl, Nat.zero_le _, rfl, Fg.refl x, hcr, fun i _ => rfl, fun i hi => absurd hi (Nat.not_lt_zero _), fun i hi => absurd hi (Nat.not_lt_zero _), fun a _ => rfl⟩
  rintro Q a0 a1 a2 a3 a4 a5 a6 a7 a8 a9 y ⟨rfl, rfl, rfl, rfl, rfl, rfl, rfl, rfl, i, rfl, i1, rfl, y1, y2, y3, y4, y5, y6⟩ ih
  by_cases ci : i < m
  · have eE : fI y 97 4 = nI E := (y1.ii (by decide)).trans hE
    have Ly : LC y := fun r hr => (y1.len r).trans (hL r hr)
    have Ry : RepC y 70 F := hR.cg7 (y1.ii (by decide)) (y1.ii (by decide)) (fun r h1 h2 => y1.aa (by omega))
    obtain ⟨e1, e2⟩ := hrow i ci
    have d17 := hd i ci
    have r17 := hr i ci
    have tk := hvN_take (md := mdC F c) (D := D) (k := i) (by omega)
    have hle : hvN (mdC F c) (D.take (i + 1)) ≤ hvN (mdC F c) D := by
      have := hv_mono (md := mdC F c) (D := D) (show i + 1 ≤ D.length by omega)
      rw [List.take_length] at this
      exact this
    have nt : L.take (i + 1) = L.take i ++ [entK c (mdC F c) R D P i] := by rw [← hLL]; exact entL_take (by omega)
    have nrt : nR (L.take (i + 1)) = nR (L.take i) + if R.getD i 0 = 0 then 1 else 0 := by
      rw [nt, nR_app, nR_one]
      rfl
    have nle : nR (L.take i) ≤ i := by
      have := nR_le (L.take i)
      rw [List.length_take] at this
      omega
    have l85 : fN y 85 = 11001 := (y1.len 85).trans L85
    unfold j_Opn_keepPage_81
    rw [show stC 96 0 = 97 from rfl, eE, nI_add]
    refine br_f (by (first | omega | (simp (disch := omega) only [Int32.le_iff_toInt_le, Int32.lt_iff_toInt_lt, z_eq, z_in, nI_toInt, z_cl, z_m1, z_sg, z_255, Int32.reduceToInt] <;> omega) | (simp only [Int32.le_iff_toInt_le, Int32.lt_iff_toInt_lt, z_eq, z_in, z_add, z_sub, z_mul, z_neg, z_nI, z_cl, z_sg, z_255, z_lit, Int32.reduceToInt] <;> omega))) ?_
    -- the value is laid
    have lay : ∀ (has : Int32) (tk0 : Nat) (v : Int64), (has = 0 ∧ tk0 = hvN (mdC F c) (D.take i) ∨ ¬ has = 0 ∧ tk0 = hvN (mdC F c) (D.take i) + 1) → tk0 = hvN (mdC F c) (D.take (i + 1)) → v = (if D.getD i 0 = mdC F c then fL x 101 (hvN (mdC F c) (D.take i)) else 0) → j_Opn_keepPage_133 post Q 96 (nI c) l2 l3 l4 (nI m) (nI g) (nI rh) (nI (hvN (mdC F c) (D.take i))) (nI (E + i)) has v (nI (E + i)) (stC 97 9) y := fun has tk0 v h1 h2 h3 => by
      unfold j_Opn_keepPage_133
      rw [show stC 97 9 = 85 from rfl]
      refine ⟨by rw [l85]; exact vp_in_nI (by omega) (by decide), nm_e ?_⟩
      have fu : FrKl x (setL y 85 (nI (E + i)) v) := Fg.trans y1 (Fg.l rfl)
      have u12 : fI (setL y 85 (nI (E + i)) v) 96 12 = nI (cr + nR (L.take i)) := y2
      have u85a : ∀ j, j < E → fL (setL y 85 (nI (E + i)) v) 85 j = fL x 85 j := fun j hj => by
        rw [gL_at, nI_clamp (by omega), updL_ne (by omega)]; exact y3 j hj
      have u85b : ∀ j, j < i + 1 → fL (setL y 85 (nI (E + i)) v) 85 (E + j) = if D.getD j 0 = mdC F c then fL x 101 (hvN (mdC F c) (D.take j)) else 0 := fun j hj => by
        rw [gL_at, nI_clamp (by omega)]
        by_cases e : j = i
        · rw [e, updL_at, h3]
        · rw [updL_ne (by omega)]; exact y4 j (by omega)
      have u86a : ∀ j, j < i → R.getD j 0 = 0 → cr + nR (L.take j) < rh → (G0 + (cr + nR (L.take j))) * N + c < 10000 → fA (setL y 85 (nI (E + i)) v) 86 ((G0 + (cr + nR (L.take j))) * N + c) = nI (E + j) := y5
      have u86b : ∀ a, (∀ j, cr ≤ j → j < rh → a ≠ (G0 + j) * N + c) → fA (setL y 85 (nI (E + i)) v) 86 a = fA x 86 a := y6
      generalize setL y 85 (nI (E + i)) v = u at *
      have go : ∀ (w : St), FrKl x w → fI w 96 12 = nI (cr + nR (L.take (i + 1))) → fL w 85 = fL u 85 → (∀ j, j < i + 1 → R.getD j 0 = 0 → cr + nR (L.take j) < rh → (G0 + (cr + nR (L.take j))) * N + c < 10000 → fA w 86 ((G0 + (cr + nR (L.take j))) * N + c) = nI (E + j)) → (∀ a, (∀ j, cr ≤ j → j < rh → a ≠ (G0 + j) * N + c) → fA w 86 a = fA x 86 a) → j_Opn_keepPage_236 post Q 96 (nI c) l2 l3 l4 (nI m) (nI g) (nI rh) (nI tk0) (nI (E + i)) has w := fun w w1 w2 w3 w4 w5 => by
        unfold j_Opn_keepPage_236
        rw [nI_1, show E + i + 1 = E + (i + 1) by omega]
        exact ih _ _ _ _ _ _ _ _ _ _ _ ⟨rfl, rfl, rfl, rfl, rfl, rfl, rfl, rfl, i + 1, rfl, ci, by rw [h2], w1, w2, fun j hj => by rw [w3]; exact u85a j hj, fun j hj => by rw [w3]; exact u85b j hj, w4, w5⟩ (by rw [nI_clamp (by omega), nI_clamp (by omega)]; omega)
      have row : ∀ s0, nI (hvN (mdC F c) (D.take i)) + s0 = nI tk0 → j_Opn_keepPage_146 post Q 96 (nI c) l2 l3 l4 (nI m) (nI g) (nI rh) (nI (hvN (mdC F c) (D.take i))) (nI (E + i)) has s0 (nI (hvN (mdC F c) (D.take i))) u := fun s0 hs0 => by
        unfold j_Opn_keepPage_146
        rw [hs0, show stC (stC 96 0) 7 = 83 from rfl, show stC (stC 96 0) 11 = 87 from rfl, show stC (stC 96 0) 5 = 70 from rfl, show stC (stC 96 0) 10 = 86 from rfl, fu.len, L83, rA_nI (by omega : E + i < 2 ^ 31), fu.aa (by decide), e1, fu.len, L87, rA_nI (by omega : g < 2 ^ 31), fu.aa (by decide), hG0, fu.ii (a := 70) (k := 1) (by decide), c1, u12, fu.len, L86]
        refine nm_e ⟨vp_in_nI (by omega) (by decide), ?_⟩
        by_cases c0 : R.getD i 0 = 0
        · rw [if_pos c0] at nrt
          obtain ⟨j, hj⟩ : ∃ j, j = cr + nR (L.take i) := ⟨_, rfl⟩
          rw [← hj] at u12 ⊢
          have bnd : (G0 + j) * N ≤ 22000 * 64 := by
            refine Nat.mul_le_mul ?_ h64
            omega
          refine bn_t (by rw [c0]; rfl) ⟨vp_in_nI hg (by decide), nm_r (e' := nI ((G0 + j) * N + c)) (by rw [nI_add, nI_mul, nI_add]) ?_⟩
          have fin : ∀ w, FrKl x w → fI w 96 12 = nI j → fL w 85 = fL u 85 → (∀ j, j < i → R.getD j 0 = 0 → cr + nR (L.take j) < rh → (G0 + (cr + nR (L.take j))) * N + c < 10000 → fA w 86 ((G0 + (cr + nR (L.take j))) * N + c) = nI (E + j)) → (∀ a, (∀ j, cr ≤ j → j < rh → a ≠ (G0 + j) * N + c) → fA w 86 a = fA x 86 a) → (j < rh → (G0 + j) * N + c < 10000 → fA w 86 ((G0 + j) * N + c) = nI (E + i)) → ∀ l11, j_Opn_keepPage_226 post Q 96 (nI c) l2 l3 l4 (nI m) (nI g) (nI rh) (nI tk0) (nI (E + i)) has l11 w := fun w w1 w2 w3 w4 w5 w6 l11 => by
            unfold j_Opn_keepPage_226
            rw [w2, nI_1]
            refine nm_e (go _ (Fg.trans w1 (Fg.i ⟨rfl, rfl⟩)) ?_ w3 (fun jj hjj z1 z2 z3 => ?_) w5)
            · rw [gI_at, nrt, hj]
              congr 1
            · show fA w 86 _ = _
              by_cases e : jj = i
              · rw [e, ← hj] at z2 z3 ⊢
                exact w6 z2 z3
              · exact w4 jj (by omega) z1 z2 z3
          by_cases cj : j < rh
          · refine br_f (by (first | omega | (simp (disch := omega) only [Int32.le_iff_toInt_le, Int32.lt_iff_toInt_lt, z_eq, z_in, nI_toInt, z_cl, z_m1, z_sg, z_255, Int32.reduceToInt] <;> omega) | (simp only [Int32.le_iff_toInt_le, Int32.lt_iff_toInt_lt, z_eq, z_in, z_add, z_sub, z_mul, z_neg, z_nI, z_cl, z_sg, z_255, z_lit, Int32.reduceToInt] <;> omega))) ?_
            by_cases ca : (G0 + j) * N + c < 10000
            · refine br_f (by (first | omega | (simp (disch := omega) only [Int32.le_iff_toInt_le, Int32.lt_iff_toInt_lt, z_eq, z_in, nI_toInt, z_cl, z_m1, z_sg, z_255, Int32.reduceToInt] <;> omega) | (simp only [Int32.le_iff_toInt_le, Int32.lt_iff_toInt_lt, z_eq, z_in, z_add, z_sub, z_mul, z_neg, z_nI, z_cl, z_sg, z_255, z_lit, Int32.reduceToInt] <;> omega))) ⟨vp_in_nI ca (by decide), nm_e ?_⟩
              refine fin _ (Fg.trans fu (Fg.a rfl)) u12 rfl (fun jj hjj z1 z2 z3 => ?_) (fun a ha => ?_) (fun _ _ => ?_) _
              · rw [gA_at, nI_clamp (by omega), upd_ne ?_]
                · exact u86a jj hjj z1 z2 z3
                · intro e
                  have mono : nR (L.take jj) < nR (L.take i) := by
                    have ntj : L.take (jj + 1) = L.take jj ++ [entK c (mdC F c) R D P jj] := by rw [← hLL]; exact entL_take (by omega)
                    have nrj : nR (L.take (jj + 1)) = nR (L.take jj) + if R.getD jj 0 = 0 then 1 else 0 := by
                      rw [ntj, nR_app, nR_one]
                      rfl
                    rw [if_pos z1] at nrj
                    have := nR_mono (E := L) (show jj + 1 ≤ i by omega)
                    omega
                  have hN0 : 0 < N := by omega
                  have : (G0 + (cr + nR (L.take jj)) + 1) * N ≤ (G0 + j) * N := Nat.mul_le_mul_right _ (by omega)
                  rw [Nat.succ_mul] at this
                  omega
              · rw [gA_at, nI_clamp (by omega), upd_ne (ha j (by omega) cj)]
                exact u86b a ha
              · rw [gA_at, nI_clamp (by omega), upd_at]
            · refine br_t (by (first | omega | (simp (disch := omega) only [Int32.le_iff_toInt_le, Int32.lt_iff_toInt_lt, z_eq, z_in, nI_toInt, z_cl, z_m1, z_sg, z_255, Int32.reduceToInt] <;> omega) | (simp only [Int32.le_iff_toInt_le, Int32.lt_iff_toInt_lt, z_eq, z_in, z_add, z_sub, z_mul, z_neg, z_nI, z_cl, z_sg, z_255, z_lit, Int32.reduceToInt] <;> omega))) (fin u fu u12 rfl u86a u86b (fun _ z => absurd z ca) _)
          · exact br_t (by (first | omega | (simp (disch := omega) only [Int32.le_iff_toInt_le, Int32.lt_iff_toInt_lt, z_eq, z_in, nI_toInt, z_cl, z_m1, z_sg, z_255, Int32.reduceToInt] <;> omega) | (simp only [Int32.le_iff_toInt_le, Int32.lt_iff_toInt_lt, z_eq, z_in, z_add, z_sub, z_mul, z_neg, z_nI, z_cl, z_sg, z_255, z_lit, Int32.reduceToInt] <;> omega))) (fin u fu u12 rfl u86a u86b (fun z => absurd z cj) _)
        · rw [if_neg c0] at nrt
          refine bn_f (fun z => c0 (nI_inj (b := 0) (by omega) (by decide) z)) (go u fu (by rw [nrt]; exact u12) rfl (fun jj hjj z1 z2 z3 => ?_) u86b)
          by_cases e : jj = i
          · rw [e] at z1; exact absurd z1 c0
          · exact u86a jj (by omega) z1 z2 z3
      rcases h1 with ⟨q1, q2⟩ | ⟨q1, q2⟩
      · exact br_t q1 (row 0 (by rw [Int32.add_zero, q2]))
      · exact br_f q1 (row 1 (by rw [nI_1, q2]))
    refine k_hasV Ly hw Ry hc (by omega) (by rw [y1.aa (by decide)]; exact e2) (by omega) (fun cd => br_f (by decide) ?_) (fun cd => br_t rfl ?_)
    · rw [if_pos cd] at tk
      refine ⟨by rw [show stC 96 8 = 101 from rfl, y1.len, L101]; exact vp_in_nI (by omega) (by decide), ?_⟩
      rw [show stC 96 8 = 101 from rfl, rL_nI (by omega), y1.ll (by decide)]
      exact lay 1 _ _ (Or.inr ⟨by decide, rfl⟩) tk.symm (by rw [if_pos cd])
    · rw [if_neg cd] at tk
      exact lay 0 _ _ (Or.inl ⟨rfl, rfl⟩) tk.symm (by rw [if_neg cd])
  · have e : i = m := by omega
    subst e
    have t1 : D.take i = D := by rw [← hm, List.take_length]
    have t2 : L.take i = L := by rw [← lL, List.take_length]
    rw [t1]
    rw [t2] at y2
    have := k y y1 y2 y3 y4 y5 y6
    unfold j_Opn_keepPage_81 at this ⊢
    refine ⟨this.1, fun z => absurd ?_ z⟩
    rw [show stC 96 0 = 97 from rfl, (y1.ii (by decide)).trans hE, nI_add]
    exact Int32.le_refl _
end
