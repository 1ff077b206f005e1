/-! answers that are rows, model -/
/-- the row that an answer is -/
def rwA (o : Bool) (F : List SFd) (G : List Nat) (CK : List (List PgW)) (Q : Qy) (v : Int32) : Option Nat := if o = true ∧ cll Q = false ∧ 0 ≤ v ∧ v < nI (fndR F G CK Q).length then some ((fndR F G CK Q).getD (fOf v) 0) else none
/-- columns that a query asks for -/
def wnQ (F : List SFd) (Q : Qy) (c : Nat) : Bool := Q.1.any (fun i => decide (dsc F (fOf i.2.1) (lfC F c)))
def AnM (x : St) (o : Bool) (s : Nat) (F : List SFd) (G : List Nat) (CK : List (List PgW)) (Pl : List PV) (Q : Qy) : Prop := fI x 0 121 = (if o = true then 1 else 0) ∧ (o = true → s < 3 ∧ fI x 0 119 = nI s ∧ KqM x s Q ∧ QyW F Q ∧ RaM x F G CK Pl Q ∧ smN G ≤ 2000)
theorem i_fit {v : Int32} {n : Nat} (hn : n < 2 ^ 31) (h0 : ¬ v < 0) (h : v < nI n) : ∃ i, i < n ∧ v = nI i := by
  obtain ⟨k, k1, rfl⟩ := wb_of32 v
  have k2 : k < 2 ^ 31 := by
    rcases Nat.lt_or_ge k (2 ^ 31) with z | z
    · exact z
    · exact absurd (nI_big z k1) h0
  refine ⟨k, ?_, rfl⟩
  rcases Nat.lt_or_ge k n with z | z
  · exact z
  · exact absurd h (by (first | omega | (simp (disch := omega) only [Int32.le_iff_toInt_le, Int32.lt_iff_toInt_lt, z_eq, z_in, nI_toInt, z_cl, z_m1, z_sg, z_255, Int32.reduceToInt] <;> omega) | (simp only [Int32.le_iff_toInt_le, Int32.lt_iff_toInt_lt, z_eq, z_in, z_add, z_sub, z_mul, z_neg, z_nI, z_cl, z_sg, z_255, z_lit, Int32.reduceToInt] <;> omega)))
section
variable {x y z : St} {F : List SFd} {G : List Nat} {K : List ChT} {CK : List (List PgW)} {Pl : List PV} {s : Nat} {Q : Qy} {o : Bool}
theorem AnM.cg (h : AnM x o s F G CK Pl Q) (e1 : ∀ k, k = 119 ∨ k = 121 ∨ k = 161 ∨ k = 163 ∨ k = 164 → fI y 0 k = fI x 0 k) (e2 : ∀ a, 79 ≤ a ∧ a ≤ 92 ∨ 104 ≤ a → fA y a = fA x a) (e3 : ∀ a, a = 93 ∨ a = 114 → fL y a = fL x a) : AnM y o s F G CK Pl Q := by
  refine ⟨(e1 121 (by omega)).trans h.1, fun ho => ?_⟩
  obtain ⟨h1, h2, h3, h4, h5, h6⟩ := h.2 ho
  refine ⟨h1, (e1 119 (by omega)).trans h2, ⟨SqM.cg h3.1 (fun a _ z => e2 a (by omega)) (e3 93 (by omega)), fun i hi => ?_, h3.2.2⟩, h4, ?_, h6⟩
  · rw [e2 92 (by omega)]
    exact h3.2.1 i hi
  · unfold RaM at *
    rw [e1 163 (by omega), e1 164 (by omega), e1 161 (by omega), e2 104 (by omega), e2 109 (by omega), e2 110 (by omega), e2 111 (by omega), e2 112 (by omega), e3 114 (by omega)]
    exact h5
theorem s_isRow {post : Int32 → St → Prop} {v : Int32} (hL : LM x) (h : AnM x o s F G CK Pl Q) (p1 : ∀ i, o = true → cll Q = false → v = nI i → i < (fndR F G CK Q).length → rwA o F G CK Q v = some ((fndR F G CK Q).getD i 0) → post 1 x) (p0 : rwA o F G CK Q v = none → post 0 x) : wp_Mod_isRow post v x := by
  have no : ¬ (o = true ∧ cll Q = false ∧ 0 ≤ v ∧ v < nI (fndR F G CK Q).length) → j_Mod_isRow_34 post v x := fun hn => p0 (by unfold rwA; rw [if_neg hn])
  unfold wp_Mod_isRow
  rw [h.1]
  cases o with
  | false => exact br_t rfl (no (fun z => nomatch z.1))
  | true =>
    obtain ⟨h1, h2, h3, h4, h5, h6⟩ := h.2 rfl
    refine br_f (by decide) ?_
    rw [h2]
    refine s_collects hL h1 h3.1 ?_
    by_cases c : cll Q = true
    · rw [if_pos c]
      exact bn_f (by decide) (no (fun z => by rw [c] at z; exact nomatch z.2.1))
    · have c : cll Q = false := Bool.not_eq_true _ |>.mp c
      have fl := fnd_le (F := F) (G := G) (CK := CK) (Q := Q)
      rw [c]
      refine bn_t rfl ?_
      rw [(h5.2.2.1 c).1]
      by_cases c1 : v < 0
      · exact br_t c1 (no (fun z => absurd c1 (Int32.not_lt.mpr z.2.2.1)))
      refine br_f c1 ?_
      by_cases c2 : v < nI (fndR F G CK Q).length
      · refine br_f (Int32.not_le.mpr c2) ?_
        obtain ⟨i, i1, rfl⟩ := i_fit (by omega) c1 c2
        refine p1 i rfl c rfl i1 ?_
        unfold rwA
        rw [if_pos ⟨rfl, c, Int32.not_lt.mp c1, c2⟩]
        show some (_ : Nat) = _
        unfold fOf
        rw [nI_clamp (by omega)]
      · exact br_t (Int32.not_lt.mp c2) (no (fun z => c2 z.2.2.2))
theorem s_rowQ {post : Int32 → St → Prop} {v : Int32} (hL : LM x) (h : AnM x o s F G CK Pl Q) (p : post (match rwA o F G CK Q v with | none => -1 | some r => nI r) (setI x 0 0 0)) : wp_Mod_row post v x := by
  unfold wp_Mod_row
  refine nm_e ?_
  have h' : AnM (setI x 0 0 0) o s F G CK Pl Q := h.cg (fun k hk => gI_ne (by omega)) (fun _ _ => rfl) (fun _ _ => rfl)
  have fl := fnd_le (F := F) (G := G) (CK := CK) (Q := Q)
  refine s_isRow hL h' (fun i ho hc e hi hr => br_f (by decide) ?_) (fun hr => br_t rfl (by rw [hr] at p; exact p))
  rw [hr] at p
  obtain ⟨h1, h2, h3, h4, h5, h6⟩ := h'.2 ho
  rw [e, rA_nI (by omega), (h5.2.2.1 hc).2 i hi]
  refine ⟨?_, p⟩
  show vp_in _ (fN x 104)
  rw [show fN x 104 = 2000 from hL 104]
  exact vp_in_nI (by omega) (by decide)
theorem wnQ_take {k : Nat} {c : Nat} (hk : k < Q.1.length) : (Q.1.take (k + 1)).any (fun i => decide (dsc F (fOf i.2.1) (lfC F c))) = ((Q.1.take k).any (fun i => decide (dsc F (fOf i.2.1) (lfC F c))) || decide (dsc F (fOf (Q.1.getD k (0, 0, 0)).2.1) (lfC F c))) := by
  have : Q.1.take (k + 1) = Q.1.take k ++ [Q.1.getD k (0, 0, 0)] := by
    rw [List.take_succ_eq_append_getElem hk, List.getD_eq_getElem?_getD, List.getElem?_eq_getElem hk]
    rfl
  rw [this, List.any_append]
  congr 1
  show (_ || false) = _
  rw [Bool.or_false]
theorem cll_0 (h : cll Q = false) {i : QIt} (hi : i ∈ Q.1) (hI : itF F i) : ∃ f, f < F.length ∧ i.2.1 = nI f := by
  rcases hI with ⟨-, h2⟩ | ⟨h2, -⟩ | ⟨h2, -, -⟩
  · exact h2
  · exfalso
    have : cll Q = true := by
      unfold cll
      rw [Bool.or_eq_true]
      exact Or.inr (List.any_eq_true.mpr ⟨i, hi, decide_eq_true (by rw [h2]; decide)⟩)
    rw [h] at this
    exact nomatch this
  · exfalso
    have : cll Q = true := by
      unfold cll
      rw [Bool.or_eq_true]
      refine Or.inr (List.any_eq_true.mpr ⟨i, hi, decide_eq_true ?_⟩)
      clear h hi
      (first | omega | (simp (disch := omega) only [Int32.le_iff_toInt_le, Int32.lt_iff_toInt_lt, z_eq, z_in, nI_toInt, z_cl, z_m1, z_sg, z_255, Int32.reduceToInt] at * <;> omega) | (simp only [Int32.le_iff_toInt_le, Int32.lt_iff_toInt_lt, z_eq, z_in, z_add, z_sub, z_mul, z_neg, z_nI, z_cl, z_sg, z_255, z_lit, Int32.reduceToInt] at * <;> omega))
    rw [h] at this
    exact nomatch this
theorem s_answer {post : Int32 → St → Prop} {v : Int32} (hL : LM x) (h : AnM x o s F G CK Pl Q) (hO : o = true → RdM x F G CK Pl ∧ WfS F ∧ NmS F ∧ OkO F G CK ∧ CK.length = ncol F * G.length)
    (pn : rwA o F G CK Q v = none → ∀ y, FrShw x y → fI y 0 0 = 0 → fI y 0 113 = 0 → post (-1) y)
    (pm : ∀ r, rwA o F G CK Q v = some r → 100000 < (shO F G CK (wnQ F Q) r).length → ∀ y, FrShw x y → fI y 0 0 = 0 → fI y 0 113 = 0 → post (-1) y)
    (pk : ∀ r, rwA o F G CK Q v = some r → (shO F G CK (wnQ F Q) r).length ≤ 100000 → ∀ y, FrShw x y → fI y 0 0 = 0 → OutM y (shO F G CK (wnQ F Q) r) → post (nI (shO F G CK (wnQ F Q) r).length) y) : wp_Mod_answer post v x := by
  unfold wp_Mod_answer
  refine nm_e (nm_e ?_)
  have f1 : FrShw x (setI (setI x 0 0 0) 0 113 0) := Fg.trans (Fg.i ⟨rfl, Or.inr rfl⟩) (Fg.i ⟨rfl, Or.inl rfl⟩)
  have a0 : fI (setI (setI x 0 0 0) 0 113 0) 0 0 = 0 := (gI_ne (by decide)).trans gI_at
  have a113 : fI (setI (setI x 0 0 0) 0 113 0) 0 113 = 0 := gI_at
  have ha : AnM (setI (setI x 0 0 0) 0 113 0) o s F G CK Pl Q := h.cg (fun k hk => by rw [gI_ne (by omega), gI_ne (by omega)]) (fun _ _ => rfl) (fun _ _ => rfl)
  generalize setI (setI x 0 0 0) 0 113 0 = a at *
  have La : LM a := fun r => (congrFun f1.2.2.2.2.2 r).trans (hL r)
  refine s_isRow La ha (fun i ho hc e hi hr => bn_f (by decide) ?_) (fun hr => bn_t rfl (pn hr a f1 a0 a113))
  obtain ⟨H, hw, hN, ok, hl⟩ := hO ho
  obtain ⟨hs, -, -, hW, -, h2000⟩ := ha.2 ho
  have fl := fnd_le (F := F) (G := G) (CK := CK) (Q := Q)
  have rr : (fndR F G CK Q).getD i 0 < smN G := fnd_lt (mem_gD hi)
  have h64 := hw.2.1
  have q16 : Q.1.length ≤ 16 := (h.2 ho).2.2.1.1.1.2.1
  refine lp_Mod_answer_22 (fun b1 b2 y => v = b1 ∧ FrShw a y ∧ fI y 0 0 = 0 ∧ fI y 0 113 = 0 ∧ ∃ k, k ≤ ncol F ∧ nI k = b2 ∧ WtM y (wnQ F Q) k) (fun _ b2 _ => ncol F - b2.toNatClampNeg) ?_ _ _ _ ⟨rfl, Fg.refl a, a0, a113, 0, Nat.zero_le _, rfl, fun c hc => absurd hc (Nat.not_lt_zero _)⟩
  rintro R b1 b2 y ⟨rfl, fy, y0, y113, k, hk, rfl, wk⟩ ih
  have fxy := f1.trans fy
  have Hy : RdM y F G CK Pl := H.fr fxy (by decide) (by decide) (fun r hr => by omega)
  have hy : AnM y o s F G CK Pl Q := ha.cg (fun k hk => fy.1 0 k (fun z => by omega)) (fun a z => fy.2.2.2.1 a (fun u => by omega)) (fun a _ => fy.2.2.2.2.1 a (fun u => u))
  have e10 : rA y 10 1 = nI (ncol F) := by rw [show (1 : Int32) = nI 1 from rfl, rA_nI (by decide)]; exact Hy.2.1.2.1
  unfold j_Mod_answer_22
  rw [e10, show fN y 10 = 3 from Hy.1 10]
  refine ⟨vp_in_nI (n := 1) (by decide) (by decide), ?_⟩
  by_cases c : k = ncol F
  · subst c
    refine br_t (by (first | omega | (simp (disch := omega) only [Int32.le_iff_toInt_le, Int32.lt_iff_toInt_lt, z_eq, z_in, nI_toInt, z_cl, z_m1, z_sg, z_255, Int32.reduceToInt] <;> omega) | (simp only [Int32.le_iff_toInt_le, Int32.lt_iff_toInt_lt, z_eq, z_in, z_add, z_sub, z_mul, z_neg, z_nI, z_cl, z_sg, z_255, z_lit, Int32.reduceToInt] <;> omega))) ?_
    have e104 : rA y 104 v = nI ((fndR F G CK Q).getD i 0) := by
      rw [e, rA_nI (by omega)]
      exact ((hy.2 ho).2.2.2.2.1.2.2.1 hc).2 i hi
    rw [e104, show fN y 104 = 2000 from Hy.1 104]
    refine ⟨by rw [e]; exact vp_in_nI (by omega) (by decide), ?_⟩
    have ft : ∀ {z}, FrTr y z → FrShw x z := fun f => fxy.trans (f.mono (fun _ _ z => ⟨z.1, Or.inl z.2⟩) (fun _ _ z => z) (fun _ _ z => z) (fun a z => by omega) (fun _ z => z))
    refine s_tellRecord hw hN Hy ok hl rr wk y113 (fun q z fz z113 => pm _ hr q z (ft fz) ?_ z113) (fun q z fz oz => pk _ hr q z (ft fz) ?_ oz)
    · exact (fz.1 0 0 (fun u => by omega)).trans y0
    · exact (fz.1 0 0 (fun u => by omega)).trans y0
  · have kC : k < ncol F := by omega
    have vk : vp_in (nI k) 64 := vp_in_nI (by omega) (by decide)
    refine br_f (by (first | omega | (simp (disch := omega) only [Int32.le_iff_toInt_le, Int32.lt_iff_toInt_lt, z_eq, z_in, nI_toInt, z_cl, z_m1, z_sg, z_255, Int32.reduceToInt] <;> omega) | (simp only [Int32.le_iff_toInt_le, Int32.lt_iff_toInt_lt, z_eq, z_in, z_add, z_sub, z_mul, z_neg, z_nI, z_cl, z_sg, z_255, z_lit, Int32.reduceToInt] <;> omega))) ?_
    rw [show fN y 78 = 64 from Hy.1 78]
    refine ⟨vk, nm_e ?_⟩
    refine lp_Mod_answer_41 (fun b1 b2 b3 z => v = b1 ∧ nI k = b2 ∧ FrShw a z ∧ fI z 0 0 = 0 ∧ fI z 0 113 = 0 ∧ WtM z (wnQ F Q) k ∧ ∃ j, j ≤ Q.1.length ∧ nI j = b3 ∧ fA z 78 k = if (Q.1.take j).any (fun i => decide (dsc F (fOf i.2.1) (lfC F k))) = true then 1 else 0) (fun _ _ b3 _ => Q.1.length - b3.toNatClampNeg) ?_ _ _ _ _ ⟨rfl, rfl, fy.trans (Fg.a (by decide)), y0, y113, fun c hc => ?_, 0, Nat.zero_le _, rfl, gA_on (by omega)⟩
    rotate_left
    · rw [gA_off (by omega) (by omega)]; exact wk c hc
    rintro R2 b1 b2 b3 z ⟨rfl, rfl, fz, z0, z113, wz, j, hj, rfl, zk⟩ ih2
    have fxz := f1.trans fz
    have Hz : RdM z F G CK Pl := H.fr fxz (by decide) (by decide) (fun r hr => by omega)
    have hz : AnM z o s F G CK Pl Q := ha.cg (fun k hk => fz.1 0 k (fun z => by omega)) (fun a z => fz.2.2.2.1 a (fun u => by omega)) (fun a _ => fz.2.2.2.2.1 a (fun u => u))
    obtain ⟨-, z119, ⟨⟨⟨q1, q2, q3⟩, -⟩, -⟩, -⟩ := hz.2 ho
    have e4 : 4 * (fI z 0 119) = nI (4 * s) := by
      rw [z119]
      show nI 4 * nI s = _
      rw [nI_mul]
    have e16 : (16 * (fI z 0 119)) + nI j = nI (16 * s + j) := by
      rw [z119]
      show nI 16 * nI s + nI j = _
      rw [nI_mul, nI_add]
    have r79 : rA z 79 (nI (4 * s)) = nI Q.1.length := by
      rw [rA_nI (by omega)]; exact q1
    unfold j_Mod_answer_41
    rw [e4, r79, show fN z 79 = 12 from Hz.1 79]
    refine ⟨vp_in_nI (by omega) (by decide), ?_⟩
    by_cases cj : j = Q.1.length
    · subst cj
      rw [List.take_length] at zk
      refine br_t (by (first | omega | (simp (disch := omega) only [Int32.le_iff_toInt_le, Int32.lt_iff_toInt_lt, z_eq, z_in, nI_toInt, z_cl, z_m1, z_sg, z_255, Int32.reduceToInt] <;> omega) | (simp only [Int32.le_iff_toInt_le, Int32.lt_iff_toInt_lt, z_eq, z_in, z_add, z_sub, z_mul, z_neg, z_nI, z_cl, z_sg, z_255, z_lit, Int32.reduceToInt] <;> omega))) ?_
      rw [nI_1]
      refine ih _ _ _ ⟨rfl, fz, z0, z113, k + 1, kC, rfl, fun c hc => ?_⟩ ?_
      · by_cases u : c = k
        · subst u
          exact zk
        · exact wz c (by omega)
      · rw [nI_clamp (by omega), nI_clamp (by omega)]
        omega
    · have jQ : j < Q.1.length := by omega
      obtain ⟨f, hf, ef⟩ := cll_0 hc (mem_gD (d := (0, 0, 0)) jQ) (hW.2.1 _ (mem_gD jQ))
      have tk := wnQ_take (F := F) (c := k) jQ
      have ff : fOf (Q.1.getD j (0, 0, 0)).2.1 = f := by
        rw [ef]
        exact nI_clamp (by have := hw.1; omega)
      rw [ff] at tk
      refine br_f (by (first | omega | (simp (disch := omega) only [Int32.le_iff_toInt_le, Int32.lt_iff_toInt_lt, z_eq, z_in, nI_toInt, z_cl, z_m1, z_sg, z_255, Int32.reduceToInt] <;> omega) | (simp only [Int32.le_iff_toInt_le, Int32.lt_iff_toInt_lt, z_eq, z_in, z_add, z_sub, z_mul, z_neg, z_nI, z_cl, z_sg, z_255, z_lit, Int32.reduceToInt] <;> omega))) ?_
      have nx : ∀ b : Bool, (Q.1.take (j + 1)).any (fun i => decide (dsc F (fOf i.2.1) (lfC F k))) = b → j_Mod_answer_97 post R R2 v (nI k) (nI j) (if b = true then 1 else 0) (nI k) 78 z := by
        intro b hb
        unfold j_Mod_answer_97
        rw [show fN z 78 = 64 from Hz.1 78]
        have en : vp_nar .boolean (if b = true then 1 else 0) = (if b = true then 1 else 0 : Int32) := by cases b <;> rfl
        rw [en]
        refine ⟨vk, nm_e ?_⟩
        rw [nI_1]
        refine ih2 _ _ _ _ ⟨rfl, rfl, fz.trans (Fg.a (by decide)), z0, z113, fun c hc => ?_, j + 1, jQ, rfl, ?_⟩ ?_
        · rw [gA_off (by omega) (by omega)]; exact wz c hc
        · rw [gA_on (by omega), hb]
        · rw [nI_clamp (by omega), nI_clamp (by omega)]
          omega
      have r78 : rA z 78 (nI k) = if (Q.1.take j).any (fun i => decide (dsc F (fOf i.2.1) (lfC F k))) = true then 1 else 0 := by
        rw [rA_nI (by omega)]; exact zk
      have r81 : rA z 81 (nI (16 * s + j)) = nI f := by
        rw [rA_nI (by omega), (q3 j jQ).2.1, ef]
      rw [r78, show fN z 78 = 64 from Hz.1 78, e16, r81, show fN z 81 = 48 from Hz.1 81]
      refine ⟨vk, ?_⟩
      by_cases t : (Q.1.take j).any (fun i => decide (dsc F (fOf i.2.1) (lfC F k))) = true
      · rw [t, Bool.true_or] at tk
        rw [if_pos t]
        refine bn_f (by decide) ?_
        unfold j_Mod_answer_92
        exact nx true tk
      · have t : (Q.1.take j).any (fun i => decide (dsc F (fOf i.2.1) (lfC F k))) = false := Bool.not_eq_true _ |>.mp t
        rw [t, Bool.false_or] at tk
        rw [t]
        refine bn_t rfl ⟨vp_in_nI (by omega) (by decide), s_isUnder Hz.1 hw Hz.2.1 kC hf (fun d => br_f (by decide) ?_) (fun d => br_t rfl ?_)⟩
        · unfold j_Mod_answer_92
          exact nx true (by rw [tk]; exact decide_eq_true d)
        · exact nx false (by rw [tk]; exact decide_eq_false d)
end
