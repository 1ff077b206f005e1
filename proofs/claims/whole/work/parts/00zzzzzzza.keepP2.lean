/-! the Opener keeps a page: what is told of its chunk -/
theorem RfP.ok {x : St} {b ty : Nat} {v : Int64} {p : PV} (h : RfP x b ty v p) : okVv ty p := fun c => (h.2 c).1
abbrev FrKt (x y : St) : Prop := Fg (fun a k => a = 97 ∧ (k = 3 ∨ k = 4) ∨ a = 96 ∧ k = 16) no2 no2 (fun a => a = 90 ∨ a = 91) (fun a => a = 92 ∨ a = 93) x y
section
variable {x y z : St} {F : List SFd} {c b : Nat}
theorem k_keep370 {post : St → Prop} {m E pgs aT pT ct pg cN cNo no : Nat} {l1 l4 l6 l7 l8 l9 : Int32} (hL : LC x) (hct : ct < 6000) (hpg : pg < 6000) (hne : pg ≠ ct) (h90 : fA x 90 ct = nI cN) (h91 : fA x 91 ct = nI cNo) (hno : fA x 91 pg = nI no) (hE : fI x 97 4 = nI E) (hpgs : fI x 97 3 = nI pgs) (haT : fI x 96 16 = nI aT) (hpT : fI x 96 15 = nI pT)
    (k : ∀ y, Fg (fun a k => a = 97 ∧ (k = 3 ∨ k = 4) ∨ a = 96 ∧ k = 16) no2 no2 (fun a => a = 90 ∨ a = 91) no1 x y → fA y 90 = upd (fA x 90) ct (nI (cN + m)) → fA y 91 = upd (fA x 91) ct (nI (cNo + no)) → fI y 97 4 = nI (E + m) → fI y 97 3 = nI (pgs + 1) → fI y 96 16 = nI (aT + pT) → post y) : j_Opn_keepPage_370 post 96 l1 (nI ct) (nI pg) l4 (nI m) l6 l7 l8 l9 x := by
  have L90 : fN x 90 = 6000 := hL 90 (by decide)
  have L91 : fN x 91 = 6000 := hL 91 (by decide)
  unfold j_Opn_keepPage_370
  rw [show stC (stC 96 0) 14 = 90 from rfl, show stC (stC 96 0) 15 = 91 from rfl, show stC 96 0 = 97 from rfl, L90, rA_nI (by omega : ct < 2 ^ 31), h90, nI_add]
  refine ⟨vp_in_nI hct (by decide), vp_in_nI hct (by decide), nm_e ?_⟩
  rw [show fN (setA x 90 (nI ct) (nI (cN + m))) 91 = 6000 from L91, rA_nI (by omega : ct < 2 ^ 31), rA_nI (by omega : pg < 2 ^ 31), gA_ne (by decide), h91, hno, nI_add]
  refine ⟨vp_in_nI hct (by decide), vp_in_nI hpg (by decide), vp_in_nI hct (by decide), nm_e (nm_e (nm_e (nm_e ?_)))⟩
  have e4 : fI (setA (setA x 90 (nI ct) (nI (cN + m))) 91 (nI ct) (nI (cNo + no))) 97 4 = nI E := hE
  rw [e4, nI_add]
  have e3 : fI (setI (setA (setA x 90 (nI ct) (nI (cN + m))) 91 (nI ct) (nI (cNo + no))) 97 4 (nI (E + m))) 97 3 = nI pgs := (gI_ne (by decide)).trans hpgs
  rw [e3, nI_1]
  have e16 : fI (setI (setI (setA (setA x 90 (nI ct) (nI (cN + m))) 91 (nI ct) (nI (cNo + no))) 97 4 (nI (E + m))) 97 3 (nI (pgs + 1))) 96 16 = nI aT := (gI_no (by decide)).trans ((gI_no (by decide)).trans haT)
  have e15 : fI (setI (setI (setA (setA x 90 (nI ct) (nI (cN + m))) 91 (nI ct) (nI (cNo + no))) 97 4 (nI (E + m))) 97 3 (nI (pgs + 1))) 96 15 = nI pT := (gI_no (by decide)).trans ((gI_no (by decide)).trans hpT)
  rw [e16, e15, nI_add]
  refine k _ (Fg.trans (Fg.trans (Fg.trans (Fg.trans (Fg.a (Or.inl rfl)) (Fg.a (Or.inr rfl))) (Fg.i (Or.inl ⟨rfl, Or.inr rfl⟩))) (Fg.i (Or.inl ⟨rfl, Or.inl rfl⟩))) (Fg.i (Or.inr ⟨rfl, rfl⟩))) ?_ ?_ ?_ ?_ gI_at
  · show fA (setA (setA x 90 (nI ct) (nI (cN + m))) 91 (nI ct) (nI (cNo + no))) 90 = _
    rw [gA_ne (by decide), gA_at, nI_clamp (by omega)]
  · show fA (setA (setA x 90 (nI ct) (nI (cN + m))) 91 (nI ct) (nI (cNo + no))) 91 = _
    rw [gA_at, nI_clamp (by omega), gA_ne (by decide)]
  · rw [gI_no (by decide), gI_ne (by decide)]
    exact gI_at
  · rw [gI_no (by decide)]
    exact gI_at
/-- behind the loop -/
theorem k_keepT {post : St → Prop} {R : Nat → Int32 → Int32 → Int32 → Int32 → Int32 → Int32 → Int32 → Int32 → Int32 → St → Prop} {m E pgs aT pT ct pg cN cNo no ty : Nat} {V P : List PV} {l1 l6 l7 l8 : Int32} (hL : LC x) (hty : ty < 4) (hb : b ≤ 120255) (hct : ct < 6000) (hpg : pg < 6000) (hne : pg ≠ ct) (h90 : fA x 90 ct = nI cN) (h91 : fA x 91 ct = nI cNo) (hV : cNo + V.length = cN) (hcN : cN ≤ 10000) (hno : fA x 91 pg = nI no) (hE : fI x 97 4 = nI E) (hpgs : fI x 97 3 = nI pgs) (haT : fI x 96 16 = nI aT) (hpT : fI x 96 15 = nI pT) (h9 : fI x 96 9 = nI P.length) (hP2 : P.length ≤ 2000) (bV : BdC x b ty V (fL x 92 ct) (fL x 93 ct)) (bP : BdC x b ty P (fL x 92 pg) (fL x 93 pg))
    (k : ∀ y, FrKt x y → fA y 90 = upd (fA x 90) ct (nI (cN + m)) → fA y 91 = upd (fA x 91) ct (nI (cNo + no)) → fI y 97 4 = nI (E + m) → fI y 97 3 = nI (pgs + 1) → fI y 96 16 = nI (aT + pT) → (∀ i, i ≠ ct → fL y 92 i = fL x 92 i ∧ fL y 93 i = fL x 93 i) → BdC y b ty (V ++ P) (fL y 92 ct) (fL y 93 ct) → post y) : j_Opn_keepPage_81 post R 96 l1 (nI ct) (nI pg) (nI ty) (nI m) l6 l7 l8 (nI (E + m)) x := by
  have L90 : fN x 90 = 6000 := hL 90 (by decide)
  have L91 : fN x 91 = 6000 := hL 91 (by decide)
  have L92 : fN x 92 = 6000 := hL 92 (by decide)
  have L93 : fN x 93 = 6000 := hL 93 (by decide)
  unfold j_Opn_keepPage_81
  rw [show stC (stC 96 0) 14 = 90 from rfl, show stC (stC 96 0) 15 = 91 from rfl, show stC (stC 96 0) 16 = 92 from rfl, show stC (stC 96 0) 17 = 93 from rfl, show stC 96 0 = 97 from rfl, hE, nI_add, L90, L91, L92, L93, rA_nI (by omega : ct < 2 ^ 31), rA_nI (by omega : ct < 2 ^ 31), h90, h91, nI_sub (by omega), h9, rL_nI (by omega : pg < 2 ^ 31), rL_nI (by omega : pg < 2 ^ 31)]
  refine br_t (Int32.le_refl _) ⟨vp_in_nI hct (by decide), vp_in_nI hct (by decide), nm_r (e' := nI V.length) (by congr 1; omega) ?_⟩
  -- the end of it
  have fin : ∀ w, Fg no2 no2 no2 no1 (fun a => a = 92 ∨ a = 93) x w → (∀ i, i ≠ ct → fL w 92 i = fL x 92 i ∧ fL w 93 i = fL x 93 i) → BdC w b ty (V ++ P) (fL w 92 ct) (fL w 93 ct) → ∀ l9, j_Opn_keepPage_370 post 96 l1 (nI ct) (nI pg) (nI ty) (nI m) l6 l7 l8 l9 w := fun w w1 w2 w3 l9 => by
    refine k_keep370 (cN := cN) (cNo := cNo) (no := no) (E := E) (pgs := pgs) (aT := aT) (pT := pT) (fun r hr => (w1.len r).trans (hL r hr)) hct hpg hne (by rw [w1.aa id]; exact h90) (by rw [w1.aa id]; exact h91) (by rw [w1.aa id]; exact hno) ((w1.ii id).trans hE) ((w1.ii id).trans hpgs) ((w1.ii id).trans haT) ((w1.ii id).trans hpT) (fun u u1 u2 u3 u4 u5 u6 => ?_)
    refine k u ?_ (by rw [u2, w1.aa id]) (by rw [u3, w1.aa id]) u4 u5 u6 (fun i hi => by rw [u1.ll id, u1.ll id]; exact w2 i hi) ?_
    · exact Fg.trans (w1.mono (fun _ _ z => z.elim) (fun _ _ z => z) (fun _ _ z => z) (fun _ z => z.elim) (fun _ z => z)) (u1.mono (fun _ _ z => z) (fun _ _ z => z) (fun _ _ z => z) (fun _ z => z) (fun _ z => z.elim))
    · rw [u1.ll id, u1.ll id]
      exact w3.up (fun i _ => by rw [u1.aa (by decide)]) (Nat.le_refl _)
  by_cases c0 : P.length = 0
  · have eP : P = [] := List.length_eq_zero_iff.mp c0
    refine br_t (by rw [c0]; decide) (fin x (Fg.refl x) (fun i _ => ⟨rfl, rfl⟩) ?_ _)
    rw [eP, List.append_nil]
    exact bV
  refine br_f (by (first | omega | (simp (disch := omega) only [Int32.le_iff_toInt_le, Int32.lt_iff_toInt_lt, z_eq, z_in, nI_toInt, z_cl, z_m1, z_sg, z_255, Int32.reduceToInt] <;> omega) | (simp only [Int32.le_iff_toInt_le, Int32.lt_iff_toInt_lt, z_eq, z_in, z_add, z_sub, z_mul, z_neg, z_nI, z_cl, z_sg, z_255, z_lit, Int32.reduceToInt] <;> omega))) ⟨vp_in_nI hpg (by decide), nm_e ⟨vp_in_nI hpg (by decide), nm_e ?_⟩⟩
  obtain ⟨plo, phi, p1, p2, p3, p4⟩ := bP (fun z => c0 (by rw [z]; rfl))
  generalize hv24 : fL x 92 pg = v24 at *
  generalize hv25 : fL x 93 pg = v25 at *
  by_cases cV : V.length = 0
  · have eV : V = [] := List.length_eq_zero_iff.mp cV
    refine br_t (by rw [cV]; rfl) ?_
    unfold j_Opn_keepPage_320 j_Opn_keepPage_331 j_Opn_keepPage_359
    rw [show stC (stC 96 0) 16 = 92 from rfl, show stC (stC 96 0) 17 = 93 from rfl, L92]
    refine ⟨vp_in_nI hct (by decide), nm_e (br_t (by rw [cV]; rfl) ⟨by show vp_in _ (fN x 93); rw [L93]; exact vp_in_nI hct (by decide), nm_e (fin _ (Fg.trans (Fg.l (Or.inl rfl)) (Fg.l (Or.inr rfl))) (fun i hi => ⟨?_, ?_⟩) ?_ _)⟩)⟩
    · rw [gL_ne (by decide), gL_at, nI_clamp (by omega), updL_ne hi]
    · rw [gL_at, nI_clamp (by omega), updL_ne hi, gL_ne (by decide)]
    · rw [eV, List.nil_append, gL_ne (by decide), gL_at, nI_clamp (by omega), updL_at, gL_at, nI_clamp (by omega), updL_at]
      exact fun _ => ⟨plo, phi, p1.same rfl, p2, p3.same rfl, p4⟩
  refine br_f (fun z => cV (nI_inj (b := 0) (by omega) (by decide) z)) ⟨vp_in_nI hct (by decide), ?_⟩
  obtain ⟨lo, hi, q1, q2, q3, q4⟩ := bV (fun z => cV (by rw [z]; rfl))
  rw [rL_nI (by omega)]
  have am := IsMn.app q2 p2
  have ax := IsMx.app q4 p4
  -- the greatest
  have g2 : ∀ w, Fg no2 no2 no2 no1 (fun a => a = 92) x w → (∀ i, i ≠ ct → fL w 92 i = fL x 92 i) → (∃ l, RfP w b ty (fL w 92 ct) l ∧ IsMn ty (V ++ P) l) → j_Opn_keepPage_331 post 96 l1 (nI ct) (nI pg) (nI ty) (nI m) l6 l7 l8 (nI V.length) v24 v25 w := fun w w1 w2 w3 => by
    obtain ⟨l, s1, s2⟩ := w3
    have f2 : Fg no2 no2 no2 no1 (fun a => a = 92 ∨ a = 93) x w := w1.mono (fun _ _ z => z) (fun _ _ z => z) (fun _ _ z => z) (fun _ z => z) (fun _ z => Or.inl z)
    have w93 : fL w 93 = fL x 93 := w1.ll (by decide)
    unfold j_Opn_keepPage_331 j_Opn_keepPage_359
    rw [show stC (stC 96 0) 17 = 93 from rfl, show stC 96 0 = 97 from rfl, w1.len, L93]
    refine br_f (fun z => cV (nI_inj (b := 0) (by omega) (by decide) z)) ⟨vp_in_nI hct (by decide), ?_⟩
    rw [rL_nI (by omega), w93]
    refine k_cmp (fun r hr => (w1.len r).trans (hL r hr)) hb hty (p3.same (w1.aa id)) (q3.same (w1.aa id)) ?_
    have cl := cmpV_lt (ty := ty) p3.ok q3.ok
    by_cases cg : 0 < cmpV ty phi hi
    · refine br_f (by rw [Int32.le_iff_toInt_le]; rw [Int32.lt_iff_toInt_lt] at cg; show ¬ (cmpV ty phi hi).toInt ≤ _; omega) ⟨by rw [w1.len, L93]; exact vp_in_nI hct (by decide), nm_e (fin _ (Fg.trans f2 (Fg.l (Or.inr rfl))) (fun i hi => ⟨?_, ?_⟩) ?_ _)⟩
      · rw [gL_ne (by decide)]; exact w2 i hi
      · rw [gL_at, nI_clamp (by omega), updL_ne hi, w93]
      · rw [gL_ne (by decide), gL_at, nI_clamp (by omega), updL_at]
        exact fun _ => ⟨l, phi, s1.same rfl, s2, p3.same (w1.aa id), ax.1 (cl.2.mp cg)⟩
    · refine br_t (by rw [Int32.le_iff_toInt_le]; rw [Int32.lt_iff_toInt_lt] at cg; show (cmpV ty phi hi).toInt ≤ _; omega) (fin w f2 (fun i hi => ⟨w2 i hi, by rw [w93]⟩) ?_ _)
      rw [w93]
      exact fun _ => ⟨l, hi, s1, s2, q3.same (w1.aa id), ax.2 (fun z => cg (cl.2.mpr z))⟩
  refine k_cmp hL hb hty p1 q1 ?_
  have cl := cmpV_lt (ty := ty) p1.ok q1.ok
  by_cases cl0 : cmpV ty plo lo < 0
  · refine br_f (by rw [Int32.le_iff_toInt_le]; rw [Int32.lt_iff_toInt_lt] at cl0; show ¬ _ ≤ (cmpV ty plo lo).toInt; omega) ?_
    unfold j_Opn_keepPage_320
    rw [show stC (stC 96 0) 16 = 92 from rfl, L92]
    refine ⟨vp_in_nI hct (by decide), nm_e (g2 _ (Fg.l rfl) (fun i hi => ?_) ⟨plo, ?_, am.1 (cl.1.mp cl0)⟩)⟩
    · rw [gL_at, nI_clamp (by omega), updL_ne hi]
    · rw [gL_at, nI_clamp (by omega), updL_at]
      exact p1.same rfl
  · refine br_t (by rw [Int32.le_iff_toInt_le]; rw [Int32.lt_iff_toInt_lt] at cl0; show _ ≤ (cmpV ty plo lo).toInt; omega) (g2 x (Fg.refl x) (fun i _ => rfl) ⟨lo, q1, am.2 (fun z => cl0 (cl.1.mpr z))⟩)
end
