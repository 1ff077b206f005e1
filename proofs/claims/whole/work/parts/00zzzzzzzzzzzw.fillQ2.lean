/-! an answer is filled, class -/
abbrev FrFi (o : Nat) (x y : St) : Prop := Fg (fun a _ => a = o) no2 (fun a k => a = o ∧ (k = 14 ∨ k = 15)) (fun a => o + 1 ≤ a ∧ a ≤ o + 8) (fun a => a = o + 4) x y
theorem FrFi.a {o : Nat} {x y : St} (f : FrA o x y) : FrFi o x y := f.mono (fun _ _ z => z) (fun _ _ z => z) (fun _ _ z => z.elim) (fun _ z => z) (fun _ z => z)
def FlG (y : St) (o : Nat) (Q : Qy) : Prop := fI y o 0 = 0 ∧ (fI y o 6 = if cll Q = true then 1 else 0) ∧ fI y o 7 = nI Q.1.length
/-- answers that are rows -/
def RwC (y : St) (o : Nat) (L : List Nat) : Prop := fI y o 1 = nI L.length ∧ ∀ i, i < L.length → fA y (o + 2) i = nI (L.getD i 0)
section
variable {x y z : St} {F : List SFd} {G : List Nat} {K : List ChT} {CK : List (List PgW)} {b dE f r o qo s t g j c ix : Nat} {Q : Qy} {A : List GrT} {W : List Nat}
theorem FlG.cg {I J R : Nat → Nat → Prop} {A' L' : Nat → Prop} (h : FlG x o Q) (f : Fg I J R A' L' x y) (h0 : ¬ I o 0) (h6 : ¬ I o 6) (h7 : ¬ I o 7) : FlG y o Q := ⟨(f.ii h0).trans h.1, (f.ii h6).trans h.2.1, (f.ii h7).trans h.2.2⟩
theorem GrC.fs (ho : 128 ≤ o) (h : GrC x o b F G CK Q A) (f : FgS o x y) : GrC y o b F G CK Q A := by
  refine ⟨(f.ii (fun z => z)).trans h.1, h.2.1, fun g hg => ?_⟩
  obtain ⟨a1, a2⟩ := h.2.2 g hg
  exact ⟨by rw [f.aa (fun z => by omega)]; exact a1, fun i hi => (a2 i hi).cg (by rw [f.aa (fun z => by omega)]) (by rw [f.ll (fun z => z)]) (f.aa (fun z => by omega))⟩
theorem FsW.set {d : Nat} {L : List Nat} (h : FsW A W) (hd : d < A.length) : FsW (A.set d ((A.getD d (0, [])).1, L)) W := by
  refine ⟨by rw [List.length_set]; exact h.1, fun k hk => ?_⟩
  rw [List.length_set] at hk
  rw [gD_setL hd]
  by_cases q : k = d
  · subst q
    rw [if_pos rfl]
    exact h.2 k hk
  · rw [if_neg q]
    exact h.2 k hk
theorem FsW.snoc (h : FsW A W) : FsW (A ++ [(nI r, [])]) (W ++ [r]) := by
  refine ⟨by rw [List.length_append, List.length_append, h.1]; rfl, fun k hk => ?_⟩
  rcases gD_snoc (d := ((0, []) : GrT)) hk with ⟨g1, g2⟩ | ⟨g1, g2⟩
  · rw [g2, gd_app1 (by rw [h.1]; exact g1)]
    exact h.2 k g1
  · rw [g2, g1, ← h.1, gd_app2]
/-- rows alone -/
theorem k_fill1 {post : Int32 → St → Prop} (B : AnC x o qo F G K CK b dE Q) (hc : cll Q = false) (hf : FlG x o Q) (h1 : fI x o 1 = 0) (p : ∀ y, FrA o x y → FlG y o Q → RwC y o (fndR F G CK Q) → WnR y o F Q → post 1 y) : j_Ans_fill_72 post o 97 qo x := by
  have h2000 := B.1.2.2.1.2.2.2.2.2.2.2.1
  have o5 := (sta B.2.1).2.1
  have ho : 128 ≤ o := by rcases B.2.1 with h | h <;> omega
  refine k_fillL (J := fun k y => FlG y o Q ∧ RwC y o (fndK F G CK Q k)) B (fun k y z f h => ⟨h.1.cg f (fun z => z) (fun z => z) (fun z => z), (f.ii (fun z => z)).trans h.2.1, fun i hi => ?_⟩) ⟨hf, h1, fun i hi => absurd hi (Nat.not_lt_zero _)⟩ (fun k y e _ h => by rw [fndK_0 e]; exact h) (fun k y R hk e fy h nx => ?_) (fun y fy h => ?_)
  · rw [f.aa (fun z => by omega)]
    exact h.2.2 i hi
  · obtain ⟨h1, h2, h3⟩ := h
    have By := B.fa fy
    have m2 := (B.2.1.len By.1.1).2.1
    have le := fndK_le (F := F) (G := G) (CK := CK) (Q := Q) (k := k)
    have e6 : fI y o 6 = 0 := by rw [h1.2.1, hc]; rfl
    unfold j_Ans_fill_107
    rw [e6, o5, m2, h2]
    refine br_t rfl ⟨vp_in_nI (by omega) (by decide), nm_e (nm_r (e' := setI (setA y (o + 2) (nI (fndK F G CK Q k).length) (nI k)) o 1 (nI ((fndK F G CK Q k).length + 1))) (by show setI _ o 1 (fI y o 1 + 1) = _; rw [h2, nI_1]) (nx _ ?_ ⟨?_, ?_, fun i hi => ?_⟩))⟩
    · exact fy.trans ((Fg.a ⟨by omega, by omega⟩).trans (Fg.i rfl))
    · exact ⟨by rw [gI_ne (by omega)]; exact h1.1, by rw [gI_ne (by omega)]; exact h1.2.1, by rw [gI_ne (by omega)]; exact h1.2.2⟩
    · rw [gI_at, fndK_1 e, List.length_append]
      rfl
    · show fA (setA y (o + 2) (nI (fndK F G CK Q k).length) (nI k)) (o + 2) i = _
      rw [fndK_1 e] at hi ⊢
      rcases gD_snoc (d := 0) hi with ⟨g1, g2⟩ | ⟨g1, g2⟩
      · rw [g2, gA_off (by omega) (by omega)]
        exact h3 i g1
      · rw [g2, g1, gA_on (by omega)]
  · obtain ⟨h1, h2, h3⟩ := h
    refine k_markW (B.fa fy) h1.2.1 h1.2.2 (fun z fz wz => p z (fy.trans (fz.mono (fun _ _ z => z.elim) (fun _ _ z => z) (fun _ _ z => z) (fun a z => by omega) (fun _ z => z.elim))) (h1.cg fz (fun z => z) (fun z => z) (fun z => z)) ⟨(fz.ii (fun z => z)).trans h2, fun i hi => ?_⟩ (wz hc))
    rw [fz.aa (fun z => by omega)]
    exact h3 i hi
/-- one group -/
theorem k_fill2 {post : Int32 → St → Prop} (B : AnC x o qo F G K CK b dE Q) (hc : cll Q = true) (hb : Q.2.1 = []) (hf : FlG x o Q) (hG : GrC x o b F G CK Q [(-1, [])]) (p : ∀ y, FrA o x y → FlG y o Q → GrC y o b F G CK Q [(-1, fndR F G CK Q)] → post 1 y) : j_Ans_fill_72 post o 97 qo x := by
  have ho : 128 ≤ o := by rcases B.2.1 with h | h <;> omega
  refine k_fillL (J := fun k y => FlG y o Q ∧ GrC y o b F G CK Q [(-1, fndK F G CK Q k)]) B (fun k y z f h => ⟨h.1.cg f (fun z => z) (fun z => z) (fun z => z), h.2.fs ho f⟩) ⟨hf, hG⟩ (fun k y e _ h => by rw [fndK_0 e]; exact h) (fun k y R hk e fy h nx => ?_) (fun y fy h => ?_)
  · obtain ⟨h1, h2⟩ := h
    have By := B.fa fy
    have h15 := By.2.2.2.2.1
    have e5 : fI y qo 5 = 0 := by rw [By.2.2.2.2.2.1.2.1.1, hb]; rfl
    have e6 : ¬ fI y o 6 = 0 := by rw [h1.2.1, hc]; decide
    unfold j_Ans_fill_107
    refine br_f e6 ?_
    unfold wp_Ans_groupOf
    refine ⟨qo, h15, bn_t e5 (bn_f (by decide) (k_gather (g := 0) By h1.2.2 h2 Nat.zero_lt_one hk By.2.2.2.2.2.2.1.2.1 (fun z fz _ gz => nx z (fy.trans fz.fa) ⟨h1.cg fz (fun z => by omega) (fun z => by omega) (fun z => by omega), ?_⟩)))⟩
    rw [fndK_1 e]
    exact gz
  · obtain ⟨h1, h2⟩ := h
    refine k_markW (B.fa fy) h1.2.1 h1.2.2 (fun z fz _ => p z (fy.trans (fz.mono (fun _ _ z => z.elim) (fun _ _ z => z) (fun _ _ z => z) (fun a z => by omega) (fun _ z => z.elim))) (h1.cg fz (fun z => z) (fun z => z) (fun z => z)) ?_)
    refine ⟨(fz.ii (fun z => z)).trans h2.1, h2.2.1, fun g hg => ?_⟩
    obtain ⟨a1, a2⟩ := h2.2.2 g hg
    exact ⟨by rw [fz.aa (fun z => by omega)]; exact a1, fun i hi => (a2 i hi).cg (by rw [fz.aa (fun z => by omega)]) (by rw [fz.ll (fun z => z)]) (fz.aa (fun z => by omega))⟩
/-- many groups -/
theorem k_fill3 {post : Int32 → St → Prop} (B : AnC x o qo F G K CK b dE Q) (hc : cll Q = true) (hb : Q.2.1 ≠ []) (hf : FlG x o Q) (h1 : fI x o 1 = 0) (h5 : ∀ i, i < 1024 → fA x (o + 5) i = 0)
    (p0 : grpG (smB F G CK Q.2.1) (fndR F G CK Q) [] = none → ∀ y, FrA o x y → FlG y o Q → post 0 y) (p1 : ∀ A, grpG (smB F G CK Q.2.1) (fndR F G CK Q) [] = some A → ∀ y, FrA o x y → FlG y o Q → GrC y o b F G CK Q A → post 1 y) : j_Ans_fill_72 post o 97 qo x := by
  have ho : 128 ≤ o := by rcases B.2.1 with h | h <;> omega
  have h2000 := B.1.2.2.1.2.2.2.2.2.2.2.1
  have hQW := B.2.2.2.2.2.2.1
  have hcol : ∀ i, i ∈ Q.1 → i.1 ≠ 1 → ∃ f, colF F f ∧ i.2.1 = nI f := fun i hi hn => itm_col hQW hc hi hn
  generalize hsm : smB F G CK Q.2.1 = same at *
  refine k_fillL (J := fun k y => FlG y o Q ∧ ∃ A W, GrC y o b F G CK Q A ∧ FsW A W ∧ HG y o F G CK Q.2.1 W ∧ grpG same (rstK F G CK Q k) A = grpG same (fndR F G CK Q) []) B (fun k y z f h => ?_) ⟨hf, [], [], ⟨h1, by decide, fun g hg => absurd hg (Nat.not_lt_zero _)⟩, ⟨rfl, fun g hg => absurd hg (Nat.not_lt_zero _)⟩, ⟨fun _ => 0, fun d hd => absurd hd (Nat.not_lt_zero _), fun d hd => absurd hd (Nat.not_lt_zero _), fun u hu => Or.inl (h5 u hu), fun d _ hd => absurd hd (Nat.not_lt_zero _), by decide⟩, rfl⟩ (fun k y e hk h => by rw [rstK_n hk e] at h; exact h) (fun k y R hk e fy h nx => ?_) (fun y fy h => ?_)
  · obtain ⟨h1, A, W, h2, h3, h4, h5⟩ := h
    exact ⟨h1.cg f (fun z => z) (fun z => z) (fun z => z), A, W, h2.fs ho f, h3, h4.cg (f.aa (fun z => by omega)), h5⟩
  · obtain ⟨h1, A, W, h2, h3, h4, h5⟩ := h
    have By := B.fa fy
    have e6 : ¬ fI y o 6 = 0 := by rw [h1.2.1, hc]; decide
    rw [rstK_1 hk e] at h5
    have ed : grpG same (k :: rstK F G CK Q (k + 1)) A = if 500 < (putG same k A).length then none else grpG same (rstK F G CK Q (k + 1)) (putG same k A) := rfl
    rw [ed] at h5
    have A5 := h2.2.1
    have wr : ∀ d, d < A.length → fOf (A.getD d (0, [])).1 = W.getD d 0 := by
      intro d hd
      rw [h3.2 d hd]
      obtain ⟨S, s1, -⟩ := h4
      have := s1 d (by rw [h3.1]; exact hd)
      exact nI_clamp (by omega)
    unfold j_Ans_fill_107
    refine br_f e6 (k_groupOf By h1.2.2 h2 h3 h4 hb hk hcol hQW.2.1 (fun d hd sm no => ?_) (fun h500 no => ?_) (fun hlt no z fz gz hz => ?_))
    · have pt : putG same k A = A.set d ((A.getD d (0, [])).1, (A.getD d (0, [])).2 ++ [k]) := putG_at hd (fun j hj => by rw [wr j (by omega), ← hsm]; exact no j hj) (by rw [wr d hd, ← hsm]; exact sm)
      refine bn_f (nI_nm1 (by omega)) (k_gather By h1.2.2 h2 hd hk hQW.2.1 (fun z fz _ gz => nx z (fy.trans fz.fa) ⟨h1.cg fz (fun z => by omega) (fun z => by omega) (fun z => by omega), _, W, gz, h3.set hd, h4.cg (fz.aa (fun z => by omega)), ?_⟩))
      rw [← pt]
      rw [if_neg (by rw [pt]; exact Nat.not_lt_of_le gz.2.1)] at h5
      exact h5
    · refine bn_t rfl (p0 ?_ y fy h1)
      have pn : putG same k A = A ++ [(nI k, [k])] := putG_new (fun j hj => by rw [wr j hj, ← hsm]; exact no j hj)
      rw [← h5, if_pos]
      rw [pn, List.length_append]
      show 500 < A.length + 1
      omega
    · have pn : putG same k A = A ++ [(nI k, [k])] := putG_new (fun j hj => by rw [wr j hj, ← hsm]; exact no j hj)
      have ge : (A ++ [(nI k, [])]).getD A.length ((0, []) : GrT) = (nI k, []) := by
        rw [List.getD_eq_getElem?_getD, List.getElem?_append_right (Nat.le_refl _), Nat.sub_self]
        rfl
      have z1 : FlG z o Q := h1.cg fz (fun z => by omega) (fun z => by omega) (fun z => by omega)
      refine bn_f (nI_nm1 (by omega)) (k_gather (By.fa fz.fa) z1.2.2 gz (by rw [List.length_append]; exact Nat.lt_succ_self _) hk hQW.2.1 (fun w fw _ gw => nx w (fy.trans (fz.fa.trans fw.fa)) ⟨z1.cg fw (fun z => by omega) (fun z => by omega) (fun z => by omega), _, W ++ [k], gw, (h3.snoc).set (by rw [List.length_append]; exact Nat.lt_succ_self _), hz.cg (fw.aa (fun z => by omega)), ?_⟩))
      rw [ge, set_last]
      show grpG same (rstK F G CK Q (k + 1)) (A ++ [(nI k, [k])]) = _
      rw [← pn]
      rw [if_neg (by rw [pn, List.length_append]; show ¬ 500 < A.length + 1; omega)] at h5
      exact h5
  · obtain ⟨h1, A, W, h2, h3, h4, h5⟩ := h
    rw [rstK_end] at h5
    refine k_markW (B.fa fy) h1.2.1 h1.2.2 (fun z fz _ => p1 A h5.symm z (fy.trans (fz.mono (fun _ _ z => z.elim) (fun _ _ z => z) (fun _ _ z => z) (fun a z => by omega) (fun _ z => z.elim))) (h1.cg fz (fun z => z) (fun z => z) (fun z => z)) ?_)
    refine ⟨(fz.ii (fun z => z)).trans h2.1, h2.2.1, fun g hg => ?_⟩
    obtain ⟨a1, a2⟩ := h2.2.2 g hg
    exact ⟨by rw [fz.aa (fun z => by omega)]; exact a1, fun i hi => (a2 i hi).cg (by rw [fz.aa (fun z => by omega)]) (by rw [fz.ll (fun z => z)]) (fz.aa (fun z => by omega))⟩
end
