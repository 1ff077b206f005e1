/-! groups gather, class -/
/-- an item of a group, class -/
def GiC (x : St) (o b ix : Nat) (F : List SFd) (G : List Nat) (CK : List (List PgW)) (a : QIt × GrT) : Prop := fA x (o + 3) ix = kdG F G CK a ∧ (a.1.1 = 1 → fL x (o + 4) ix = lN a.2.2.length) ∧ (a.1.1 = 2 → fL x (o + 4) ix = lN (itV F G CK a.1 a.2.2).length) ∧ (a.1.1 = 3 → fL x (o + 4) ix = sumL (itV F G CK a.1 a.2.2)) ∧ ∀ p, a.1.1 = 0 ∨ 4 ≤ a.1.1 → beG F G CK a = some p → RfP x b (tOf F a.1.2.1) (fL x (o + 4) ix) p
def GrC (x : St) (o b : Nat) (F : List SFd) (G : List Nat) (CK : List (List PgW)) (Q : Qy) (A : List GrT) : Prop := fI x o 1 = nI A.length ∧ A.length ≤ 500 ∧ ∀ g, g < A.length → fA x (o + 2) g = (A.getD g (0, [])).1 ∧ ∀ i, i < Q.1.length → GiC x o b (16 * g + i) F G CK (Q.1.getD i (0, 0, 0), A.getD g (0, []))
abbrev FrGr (o : Nat) (x y : St) : Prop := Fg (fun a k => a = o ∧ k = 1) no2 no2 (fun a => a = o + 2 ∨ a = o + 3) (fun a => a = o + 4) x y
theorem FrGr.fa {o : Nat} {x y : St} (f : FrGr o x y) : FrA o x y := f.mono (fun _ _ z => z.1) (fun _ _ z => z) (fun _ _ z => z) (fun a z => by omega) (fun _ z => z)
def kdT (ty : Nat) : Int32 := if ty = 0 then 1 else if ty = 3 then 3 else 2
theorem kdT_nar (ty : Nat) : vp_nar .byte (kdT ty).toInt8.toInt32 = kdT ty := by
  unfold kdT
  split
  · rfl
  · split <;> rfl
theorem FrGr.two {o : Nat} {x : St} (a b c : Int32) (d : Int64) : FrGr o x (setL (setA x (o + 3) a b) (o + 4) c d) := by
  have g1 : FrGr o x (setA x (o + 3) a b) := Fg.a (Or.inr rfl)
  have g2 : FrGr o (setA x (o + 3) a b) (setL (setA x (o + 3) a b) (o + 4) c d) := Fg.l rfl
  exact g1.trans g2
theorem bst_n {ty : Nat} {mn : Bool} {L : List PV} : bst ty mn L = none ↔ L = [] := by
  constructor
  · intro h
    rcases List.eq_nil_or_concat L with e | ⟨M, v, e⟩
    · exact e
    · rw [e, List.concat_eq_append, bst_add] at h
      exfalso
      unfold bst1 at h
      split at h
      · exact nomatch h
      · split at h
        · split at h <;> exact nomatch h
        · split at h <;> exact nomatch h
  · intro h
    rw [h]
    rfl
section
variable {x y z : St} {F : List SFd} {G : List Nat} {K : List ChT} {CK : List (List PgW)} {b dE f r o qo s t g j c ix : Nat} {Q : Qy} {A : List GrT}
theorem GiC.cg {a : QIt × GrT} (h : GiC x o b ix F G CK a) (e1 : fA y (o + 3) ix = fA x (o + 3) ix) (e2 : fL y (o + 4) ix = fL x (o + 4) ix) (e3 : fA y 82 = fA x 82) : GiC y o b ix F G CK a := by
  obtain ⟨h1, h2, h3, h4, h5⟩ := h
  rw [← e1] at h1
  rw [← e2] at h2 h3 h4 h5
  exact ⟨h1, h2, h3, h4, fun p q e => (h5 p q e).same e3⟩
theorem col78 (R : RuC x F G K CK b dE) (hf : colF F f) : vp_in (nI f) (fN x 78) ∧ rA x 78 (nI f) = nI (ncol (F.take f)) ∧ vp_in (nI f) (fN x 72) ∧ rA x 72 (nI f) = nI (tOf F (nI f)) := by
  have hw := R.2.2.1.2.1
  have hF := hw.1
  have f1 := hf.1
  have tE := (tOf_n hw hf).2.2
  have hR := R.2.2.1.1.2.2.2.1 f f1
  rw [show fN x 78 = 128 from R.1 78 (by decide), show fN x 72 = 128 from R.1 72 (by decide)]
  refine ⟨vp_in_nI (by omega) (by decide), ?_, vp_in_nI (by omega) (by decide), ?_⟩
  · rw [rA_nI (by omega)]
    exact hR.2.2.2.2.2.2.2.1
  · rw [rA_nI (by omega)]
    exact hR.2.1.trans tE
theorem k_keepV {post : St → Prop} (B : AnC x o qo F G K CK b dE Q) (hf : colF F f) (hr : r < smN G) (hx : ix < 8000) (p0 : celR F G CK r (ncol (F.take f)) = none → post x) (p1 : ∀ q v, celR F G CK r (ncol (F.take f)) = some q → RfP x b (tOf F (nI f)) v q → post (setL (setA x (o + 3) (nI ix) (kdT (tOf F (nI f)))) (o + 4) (nI ix) v)) : wp_Ans_keepValue post o (nI ix) (nI r) (nI f) x := by
  have R := B.1
  have hw := R.2.2.1.2.1
  have h14 := B.2.2.2.1
  obtain ⟨-, -, o8, o9, -⟩ := sta B.2.1
  obtain ⟨-, -, n3, n4, -⟩ := B.2.1.len R.1
  obtain ⟨v1, e1, v2, e2⟩ := col78 R hf
  obtain ⟨ty1, t4, tE⟩ := tOf_n hw hf
  have vx : vp_in (nI ix) 8000 := vp_in_nI hx (by decide)
  unfold wp_Ans_keepValue
  refine ⟨97, h14, v1, nm_r (e' := nI (ncol (F.take f))) e1 ⟨97, h14, k_cell R hf hr (fun e he => ⟨97, h14, k_hasQ R hf he (fun q hq hv => br_f (by decide) ?_) (fun hq => br_t rfl (p0 hq))⟩)⟩⟩
  refine ⟨97, h14, v2, nm_r (e' := nI (tOf F (nI f))) e2 ?_⟩
  have l85 : fN x 85 = 11001 := R.1 85 (by decide)
  rw [← ty1] at hv
  have p1 := p1 q _ hq hv
  have go : ∀ (k l4 l5 l6 : Int32), k = kdT (tOf F (nI f)) → j_Ans_keepValue_79 post o (nI ix) (nI r) (nI f) l4 (nI e) l6 k (nI ix) (stC o 8) x := by
    intro k l4 l5 l6 hk
    unfold j_Ans_keepValue_79
    rw [o8, n3, hk, kdT_nar, o9]
    refine ⟨vx, nm_e ⟨97, h14, ?_, ?_, nm_r (e' := setL (setA x (o + 3) (nI ix) (kdT (tOf F (nI f)))) (o + 4) (nI ix) (fL x 85 e)) ?_ p1⟩⟩
    · show vp_in _ (fN x 85)
      rw [l85]
      exact vp_in_nI (by have := he.1; omega) (by decide)
    · show vp_in _ (fN x (o + 4))
      rw [n4]
      exact vx
    · have : rL (setA x (o + 3) (nI ix) (kdT (tOf F (nI f)))) (stC 97 9) (nI e) = fL x 85 e := rL_nI (by have := he.1; omega)
      rw [this]
  by_cases c0 : tOf F (nI f) = 0
  · exact bn_t (by rw [c0]; rfl) (go _ _ 0 _ (by unfold kdT; rw [if_pos c0]))
  refine bn_f (fun z => c0 (nI_inj (b := 0) (by omega) (by omega) z)) ?_
  by_cases c3 : tOf F (nI f) = 3
  · exact bn_t (by rw [c3]; rfl) (go _ _ 0 _ (by unfold kdT; rw [if_neg c0, if_pos c3]))
  · exact bn_f (fun z => c3 (nI_inj (b := 3) (by omega) (by omega) z)) (go _ _ 0 _ (by unfold kdT; rw [if_neg c0, if_neg c3]))
theorem k_addGroup {post : St → Prop} {v : Int32} (B : AnC x o qo F G K CK b dE Q) (h7 : fI x o 7 = nI Q.1.length) (h : GrC x o b F G CK Q A) (hA : A.length < 500) (hcol : ∀ i, i ∈ Q.1 → i.1 ≠ 1 → ∃ f, colF F f ∧ i.2.1 = nI f) (hv : (v = -1 ∧ ∀ i, i ∈ Q.1 → i.1 ≠ 0) ∨ ∃ r, v = nI r ∧ r < smN G) (hI : ∀ i, i ∈ Q.1 → itF F i)
    (p : ∀ y, FrGr o x y → GrC y o b F G CK Q (A ++ [(v, [])]) → post y) : wp_Ans_addGroup post o v x := by
  have R := B.1
  obtain ⟨-, o5, o8, o9, -⟩ := sta B.2.1
  obtain ⟨-, n2, -⟩ := B.2.1.len R.1
  have q16 := B.2.2.2.2.2.1.1.2.1
  have ho : 128 ≤ o := by rcases B.2.1 with h | h <;> omega
  obtain ⟨h1, -, h2⟩ := h
  obtain ⟨n, hn⟩ : ∃ n, n = A.length := ⟨_, rfl⟩
  rw [← hn] at h1 hA
  unfold wp_Ans_addGroup
  refine nm_r (e' := nI (16 * n)) (by rw [h1, Nat.mul_comm]; show nI n * nI 16 = _; rw [nI_mul]) ?_
  rw [o5, n2, h1]
  refine ⟨vp_in_nI (by omega) (by decide), nm_e (nm_r (e' := setI (setA x (o + 2) (nI n) v) o 1 (nI (n + 1))) (by show setI _ o 1 (fI x o 1 + 1) = _; rw [h1, nI_1]) ?_)⟩
  have f0 : FrGr o x (setI (setA x (o + 2) (nI n) v) o 1 (nI (n + 1))) := by
    have g1 : FrGr o x (setA x (o + 2) (nI n) v) := Fg.a (Or.inl rfl)
    have g2 : FrGr o (setA x (o + 2) (nI n) v) (setI (setA x (o + 2) (nI n) v) o 1 (nI (n + 1))) := Fg.i ⟨rfl, rfl⟩
    exact g1.trans g2
  refine lp_Ans_addGroup_30 (fun b0 b1 b2 b3 y => o = b0 ∧ v = b1 ∧ nI (16 * n) = b2 ∧ FrGr o x y ∧ fI y o 1 = nI (n + 1) ∧ (∀ g, g ≠ n → fA y (o + 2) g = fA x (o + 2) g) ∧ fA y (o + 2) n = v ∧ (∀ ix, ix < 16 * n → fA y (o + 3) ix = fA x (o + 3) ix ∧ fL y (o + 4) ix = fL x (o + 4) ix) ∧ ∃ k, k ≤ Q.1.length ∧ nI k = b3 ∧ ∀ i, i < k → GiC y o b (16 * n + i) F G CK (Q.1.getD i (0, 0, 0), (v, []))) (fun _ _ _ b3 _ => Q.1.length - b3.toNatClampNeg) ?_ _ _ _ _ _ ⟨rfl, rfl, rfl, f0, gI_at, fun g hg => ?_, ?_, fun ix _ => ⟨?_, rfl⟩, 0, Nat.zero_le _, rfl, fun i hi => absurd hi (Nat.not_lt_zero _)⟩
  rotate_left
  · show fA (setA x (o + 2) (nI n) v) (o + 2) g = _
    rw [gA_off (by omega) hg]
  · show fA (setA x (o + 2) (nI n) v) (o + 2) n = _
    rw [gA_on (by omega)]
  · show fA (setA x (o + 2) (nI n) v) (o + 3) ix = _
    rw [gA_ne (by omega)]
  rintro R2 b0 b1 b2 b3 y ⟨rfl, rfl, rfl, fy, y1, y5, y5n, yo, k, hk, rfl, yk⟩ ih
  have By := B.fa fy.fa
  have y82 : fA y 82 = fA x 82 := fy.2.2.2.1 82 (fun z => by omega)
  have y7 : fI y o 7 = nI Q.1.length := (fy.1 o 7 (fun z => by omega)).trans h7
  have h15 := By.2.2.2.2.1
  obtain ⟨-, -, m3, m4, -⟩ := B.2.1.len By.1.1
  obtain ⟨c2, c3, -⟩ := stq B.2.2.1
  obtain ⟨q1, q2, -⟩ := B.2.2.1.len By.1.1
  unfold j_Ans_addGroup_30
  rw [y7]
  by_cases ck : k = Q.1.length
  · subst ck
    refine br_t (by (first | omega | (simp (disch := omega) only [Int32.le_iff_toInt_le, Int32.lt_iff_toInt_lt, z_eq, z_in, nI_toInt, z_cl, z_m1, z_sg, z_255, Int32.reduceToInt] <;> omega) | (simp only [Int32.le_iff_toInt_le, Int32.lt_iff_toInt_lt, z_eq, z_in, z_add, z_sub, z_mul, z_neg, z_nI, z_cl, z_sg, z_255, z_lit, Int32.reduceToInt] <;> omega))) (p y fy ⟨?_, ?_, fun g hg => ?_⟩)
    · rw [y1, List.length_append, ← hn]
      rfl
    · rw [List.length_append, ← hn]
      show n + 1 ≤ 500
      omega
    · rcases gD_snoc (d := ((0, []) : GrT)) hg with ⟨g1, g2⟩ | ⟨g1, g2⟩
      · rw [g2]
        obtain ⟨a1, a2⟩ := h2 g g1
        refine ⟨by rw [y5 g (by omega)]; exact a1, fun i hi => (a2 i hi).cg ?_ ?_ y82⟩
        · exact (yo (16 * g + i) (by omega)).1
        · exact (yo (16 * g + i) (by omega)).2
      · rw [g2, g1, ← hn]
        exact ⟨y5n, fun i hi => yk i hi⟩
  · have kq : k < Q.1.length := by omega
    obtain ⟨s1, s2, -⟩ := By.2.2.2.2.2.1.1.2.2 k kq
    have mq := mem_gD (d := ((0, 0, 0) : QIt)) kq
    have hit := hI _ mq
    have hco := hcol _ mq
    have hv0 : v = -1 → (Q.1.getD k (0, 0, 0)).1 ≠ 0 := fun e => by
      rcases hv with ⟨-, h⟩ | ⟨r, h, hr⟩
      · exact h _ mq
      · rw [h] at e
        have h2000 := R.2.2.1.2.2.2.2.2.2.2.1
        exact absurd e (nI_nm1 (by omega))
    refine br_f (by (first | omega | (simp (disch := omega) only [Int32.le_iff_toInt_le, Int32.lt_iff_toInt_lt, z_eq, z_in, nI_toInt, z_cl, z_m1, z_sg, z_255, Int32.reduceToInt] <;> omega) | (simp only [Int32.le_iff_toInt_le, Int32.lt_iff_toInt_lt, z_eq, z_in, z_add, z_sub, z_mul, z_neg, z_nI, z_cl, z_sg, z_255, z_lit, Int32.reduceToInt] <;> omega))) ⟨qo, h15, ?_⟩
    rw [c2, q1, rA_nI (by omega), s1]
    refine ⟨vp_in_nI (by omega) (by decide), nm_e ?_⟩
    generalize hitk : Q.1.getD k (0, 0, 0) = it at *
    have nx : ∀ w, FrGr o x w → fI w o 1 = nI (n + 1) → fA w (o + 2) = fA y (o + 2) → (∀ ix, ix ≠ 16 * n + k → fA w (o + 3) ix = fA y (o + 3) ix ∧ fL w (o + 4) ix = fL y (o + 4) ix) → GiC w o b (16 * n + k) F G CK (it, (v, [])) → ∀ l4 l5, j_Ans_addGroup_123 post R2 o v (nI (16 * n)) (nI k) l4 l5 w := by
      intro w fw w1 w5 wo wi l4 l5
      have w82 : fA w 82 = fA y 82 := (fw.2.2.2.1 82 (fun z => by omega)).trans y82.symm
      unfold j_Ans_addGroup_123
      rw [nI_1]
      refine ih _ _ _ _ _ ⟨rfl, rfl, rfl, fw, w1, fun g hg => by rw [w5]; exact y5 g hg, by rw [w5]; exact y5n, fun ix hx => ?_, k + 1, kq, rfl, fun i hi => ?_⟩ ?_
      · obtain ⟨d1, d2⟩ := wo ix (by omega)
        obtain ⟨e1, e2⟩ := yo ix hx
        exact ⟨d1.trans e1, d2.trans e2⟩
      · by_cases q : i = k
        · subst q
          rw [hitk]
          exact wi
        · obtain ⟨d1, d2⟩ := wo (16 * n + i) (by omega)
          exact (yk i (by omega)).cg d1 d2 w82
      · rw [nI_clamp (by omega), nI_clamp (by omega)]
        omega
    have vx : vp_in (nI (16 * n + k)) 8000 := vp_in_nI (by omega) (by decide)
    have iv0 : itV F G CK it [] = [] := itV_nil
    -- the cell is laid
    have lay : ∀ (kd l5 : Int32), (kd = 0 ∨ kd = 2) → (kd = 2 ↔ it.1 = 1 ∨ it.1 = 2) → j_Ans_addGroup_85 post R2 o v (nI (16 * n)) (nI k) it.1 l5 kd (nI (16 * n) + nI k) (stC o 8) y := by
      intro kd l5 hkd hiff
      have en : vp_nar .byte (kd : Int32).toInt8.toInt32 = kd := by rcases hkd with rfl | rfl <;> rfl
      unfold j_Ans_addGroup_85
      rw [nI_add, o8, o9, m3, en]
      refine ⟨vx, nm_e ⟨by show vp_in _ (fN y (o + 4)); rw [m4]; exact vx, nm_e ?_⟩⟩
      have fz := FrGr.two (o := o) (x := y) (nI (16 * n + k)) kd (nI (16 * n + k)) 0
      have z3 : fA (setL (setA y (o + 3) (nI (16 * n + k)) kd) (o + 4) (nI (16 * n + k)) 0) (o + 3) (16 * n + k) = kd := by rw [gASL, gA_on (by omega)]
      have z4 : fL (setL (setA y (o + 3) (nI (16 * n + k)) kd) (o + 4) (nI (16 * n + k)) 0) (o + 4) (16 * n + k) = 0 := gL_on (by omega)
      have z1 : fI (setL (setA y (o + 3) (nI (16 * n + k)) kd) (o + 4) (nI (16 * n + k)) 0) o 1 = nI (n + 1) := y1
      have z2 : fA (setL (setA y (o + 3) (nI (16 * n + k)) kd) (o + 4) (nI (16 * n + k)) 0) (o + 2) = fA y (o + 2) := by rw [gASL, gA_ne (by omega)]
      have zo : ∀ ix, ix ≠ 16 * n + k → fA (setL (setA y (o + 3) (nI (16 * n + k)) kd) (o + 4) (nI (16 * n + k)) 0) (o + 3) ix = fA y (o + 3) ix ∧ fL (setL (setA y (o + 3) (nI (16 * n + k)) kd) (o + 4) (nI (16 * n + k)) 0) (o + 4) ix = fL y (o + 4) ix := fun ix hx => ⟨by rw [gASL, gA_off (by omega) hx], gL_off (by omega) hx⟩
      generalize setL (setA y (o + 3) (nI (16 * n + k)) kd) (o + 4) (nI (16 * n + k)) 0 = z at *
      have Bz := By.fa fz.fa
      have z15 := Bz.2.2.2.2.1
      by_cases c0 : it.1 = 0
      · refine bn_t c0 ?_
        obtain ⟨r, hr1, hr⟩ := hv.resolve_left (fun h => hv0 h.1 c0)
        have h2000 := R.2.2.1.2.2.2.2.2.2.2.1
        have n1 : it.1 ≠ 1 := by rw [c0]; decide
        have n2' : ¬ (it.1 = 1 ∨ it.1 = 2) := by rw [c0]; decide
        obtain ⟨f0', hf, ef⟩ := hco n1
        have k0 : kd = 0 := hkd.resolve_right (fun z => n2' (hiff.mp z))
        have co : cOf F it.2.1 = ncol (F.take f0') := by rw [ef, cOf_w R.2.2.1.2.1 hf.1]
        have be : beG F G CK (it, (v, [])) = celR F G CK r (ncol (F.take f0')) := by
          unfold beG
          rw [if_pos c0]
          show celR F G CK (fOf v) (cOf F it.2.1) = _
          rw [co, hr1]
          unfold fOf
          rw [nI_clamp (by omega)]
        have kd' : kdG F G CK (it, (v, [])) = match celR F G CK r (ncol (F.take f0')) with | none => 0 | some _ => kdT (tOf F it.2.1) := by
          unfold kdG
          rw [if_neg n2', if_neg (show ¬ it.1 = 3 by rw [c0]; decide), be]
          rfl
        refine br_f (fun e => hv0 e c0) ⟨qo, z15, ?_⟩
        have q2z := (B.2.2.1.len Bz.1.1).2.1
        obtain ⟨-, t2, -⟩ := Bz.2.2.2.2.2.1.1.2.2 k kq
        rw [c3, q2z, rA_nI (by omega), t2, hitk, ef, hr1]
        refine ⟨vp_in_nI (by omega) (by decide), k_keepV Bz hf hr (by omega) (fun hq => ?_) (fun q w hq hw => ?_)⟩
        · rw [hr1] at nx kd' be
          rw [hq] at kd' be
          refine nx z (fy.trans fz) z1 z2 zo ⟨by rw [z3, kd', k0], fun e => absurd e n1, fun e => absurd (Or.inr e) n2', fun e => absurd e (by show ¬ it.1 = 3; rw [c0]; decide), fun p _ e => by rw [be] at e; exact nomatch e⟩ _ _
        · rw [hr1] at nx kd' be
          rw [hq] at kd' be
          refine nx _ ((fy.trans fz).trans (FrGr.two _ _ _ _)) z1 ?_ (fun ix hx => ?_) ⟨?_, fun e => absurd e n1, fun e => absurd (Or.inr e) n2', fun e => absurd e (by show ¬ it.1 = 3; rw [c0]; decide), fun p _ e => ?_⟩ _ _
          · rw [gASL, gA_ne (by omega)]
            exact z2
          · obtain ⟨d1, d2⟩ := zo ix hx
            exact ⟨by rw [gASL, gA_off (by omega) hx]; exact d1, by rw [gL_off (by omega) hx]; exact d2⟩
          · rw [gASL, gA_on (by omega), kd']
            show kdT (tOf F (nI f0')) = kdT (tOf F it.2.1)
            rw [ef]
          · rw [be] at e
            injection e with e
            rw [gL_on (by omega), ← e]
            show RfP _ b (tOf F it.2.1) _ _
            rw [ef]
            refine hw.same ?_
            rw [gASL, gA_ne (by omega)]
      · refine bn_f c0 (nx z (fy.trans fz) z1 z2 zo ⟨?_, fun _ => z4, fun _ => ?_, fun _ => ?_, fun p hp e => ?_⟩ _ _)
        · rw [z3]
          unfold kdG beG
          show kd = if it.1 = 1 ∨ it.1 = 2 then 2 else if it.1 = 3 then (if (itV F G CK it []).length = 0 then 0 else 2) else match (if it.1 = 0 then celR F G CK (fOf v) (cOf F it.2.1) else bst (tOf F it.2.1) (decide (it.1 = 4)) (itV F G CK it [])) with | none => 0 | some _ => _
          rw [iv0, if_neg c0]
          by_cases q : it.1 = 1 ∨ it.1 = 2
          · rw [if_pos q]
            exact hiff.mpr q
          · rw [if_neg q]
            have k0 : kd = 0 := hkd.resolve_right (fun z => q (hiff.mp z))
            rw [k0]
            split <;> rfl
        · show fL z (o + 4) _ = lN (itV F G CK it []).length
          rw [iv0]
          exact z4
        · show fL z (o + 4) _ = sumL (itV F G CK it [])
          rw [iv0]
          exact z4
        · exfalso
          unfold beG at e
          rw [if_neg c0] at e
          have e : bst (tOf F it.2.1) (decide (it.1 = 4)) (itV F G CK it []) = some p := e
          rw [iv0] at e
          exact nomatch e
    by_cases c1 : it.1 = 1
    · refine br_t c1 ?_
      unfold j_Ans_addGroup_61 j_Ans_addGroup_66
      exact br_f (by decide) (lay 2 _ (Or.inr rfl) ⟨fun _ => Or.inl c1, fun _ => rfl⟩)
    refine br_f c1 ?_
    by_cases c2' : it.1 = 2
    · refine bn_t c2' ?_
      unfold j_Ans_addGroup_61 j_Ans_addGroup_66
      exact br_f (by decide) (lay 2 _ (Or.inr rfl) ⟨fun _ => Or.inr c2', fun _ => rfl⟩)
    · refine bn_f c2' ?_
      unfold j_Ans_addGroup_66
      exact br_t rfl (lay 0 _ (Or.inl rfl) ⟨fun z => absurd z (by decide), fun z => absurd z (fun q => q.elim c1 c2')⟩)
end
