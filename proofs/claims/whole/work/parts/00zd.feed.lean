/-! feed: twenty bytes -/
/-- a byte of a number: the highest is 3 -/
def byt (v : Int32) (m : Nat) : Int32 := (v >>> (nI (8 * m) &&& 31)) &&& 255
theorem byt_bd (v : Int32) (m : Nat) : 0 ≤ byt v m ∧ byt v m ≤ 255 := by
  unfold byt
  generalize v >>> (nI (8 * m) &&& 31) = u
  have := z_255 u
  constructor <;> (first | omega | (simp (disch := omega) only [Int32.le_iff_toInt_le, Int32.lt_iff_toInt_lt, z_eq, z_in, nI_toInt, z_cl, z_m1, z_sg, z_255, Int32.reduceToInt] <;> omega) | (simp only [Int32.le_iff_toInt_le, Int32.lt_iff_toInt_lt, z_eq, z_in, z_add, z_sub, z_mul, z_neg, z_nI, z_cl, z_sg, z_255, z_lit, Int32.reduceToInt] <;> omega))
theorem sg_low {a b : Int32} (h : a &&& 255 = b &&& 255) : a.toInt8.toInt32 = b.toInt8.toInt32 := by
  have h := congrArg Int32.toInt h
  rw [z_255, z_255] at h
  rw [z_eq, z_sg, z_sg]
  omega
theorem byt_u {v : Int32} {m : Nat} (hm : m ≤ 3) : ((v.toUInt32 >>> ((nI (8 * m)).toUInt32 &&& Int32.toUInt32 31)).toInt32).toInt8.toInt32 = (byt v m).toInt8.toInt32 := by
  refine sg_low (b_ext (fun i hi => ?_))
  unfold byt
  rw [b_and, b_and, b_and, b_255, b_ushr (8 * m) (by omega), b_sshr (8 * m) (by omega) v hi]
  by_cases c : i < 8
  · rw [if_pos (by omega)]
    simp [c]
  · simp [c]
/-- the twenty bytes of five numbers -/
def b20 (v1 v2 v3 v4 v5 : Int32) (j : Nat) : Int32 := byt (if j < 4 then v1 else if j < 8 then v2 else if j < 12 then v3 else if j < 16 then v4 else v5) (3 - j % 4)
/-- a text with more bytes behind place t -/
def app (T : Nat → Int32) (t : Nat) (f : Nat → Int32) : Nat → Int32 := fun i => if i < t then T i else f (i - t)
def TpM (x : St) (T : Nat → Int32) (t : Nat) : Prop := fI x 0 3 = nI t ∧ t ≤ 40000 ∧ ∀ i, i < t → fA x 1 i = T i ∧ 0 ≤ T i ∧ T i ≤ 255
abbrev FrM (K A : Nat → Prop) (x y : St) : Prop := Fr (fun o k => o = 0 ∧ K k) A x y
theorem s_feed {post : Int32 → St → Prop} {x : St} {T : Nat → Int32} {t : Nat} {v1 v2 v3 v4 v5 : Int32} (hL : LM x) (h : TpM x T t)
    (p1 : t + 20 ≤ 40000 → ∀ y, FrM (fun k => k = 0 ∨ k = 3) (fun a => a = 1) x y → TpM y (app T t (b20 v1 v2 v3 v4 v5)) (t + 20) → post 1 y)
    (p0 : ¬ t + 20 ≤ 40000 → ∀ y, FrM (fun k => k = 0 ∨ k = 3) (fun a => a = 1) x y → TpM y T t → post 0 y) : wp_Mod_feed post v1 v2 v3 v4 v5 x := by
  obtain ⟨h1, h2, h3⟩ := h
  unfold wp_Mod_feed
  refine nm_e ?_
  rw [show fI (setI x 0 0 0) 0 3 = nI t from h1, show (20 : Int32) = nI 20 from rfl, nI_add, show (40000 : Int32) = nI 40000 from rfl]
  have f0 : FrM (fun k => k = 0 ∨ k = 3) (fun a => a = 1) x (setI x 0 0 0) := Fr.I ⟨rfl, Or.inl rfl⟩
  by_cases c : t + 20 ≤ 40000
  · refine br_t (nI_le c (by decide)) ?_
    refine lp_Mod_feed_22 (fun a0 a1 a2 a3 a4 a5 y => v1 = a0 ∧ v2 = a1 ∧ v3 = a2 ∧ v4 = a3 ∧ v5 = a4 ∧ ∃ i, i ≤ 20 ∧ nI i = a5 ∧ FrM (fun k => k = 0 ∨ k = 3) (fun a => a = 1) x y ∧ fI y 0 3 = nI t ∧ ∀ j, j < t + i → fA y 1 j = app T t (b20 v1 v2 v3 v4 v5) j) (fun _ _ _ _ _ a5 _ => 20 - a5.toNatClampNeg) ?_ _ _ _ _ _ _ _ ⟨rfl, rfl, rfl, rfl, rfl, 0, by decide, rfl, f0, h1, fun j hj => ?_⟩
    · rintro R a0 a1 a2 a3 a4 a5 y ⟨rfl, rfl, rfl, rfl, rfl, i, hi, rfl, fy, y3, hc⟩ ih
      unfold j_Mod_feed_22
      have hN : fN y 1 = 40000 := by show y.2.2.2.2.2 1 = _; rw [fy.2.2.2.2]; exact hL 1
      by_cases d : i < 20
      · have step : ∀ u : Int32, u = (if i < 4 then v1 else if i < 8 then v2 else if i < 12 then v3 else if i < 16 then v4 else v5) → j_Mod_feed_75 post R v1 v2 v3 v4 v5 (nI i) u y := by
          intro u hu
          unfold j_Mod_feed_75
          rw [y3, nI_add, hN]
          have e : (u >>> ((24 - (8 * (nI i - nI i / 4 * 4))) &&& 31)) &&& 255 = b20 v1 v2 v3 v4 v5 i := by
            unfold b20 byt
            rw [← hu]
            have e2 : ∀ i, i < 20 → ((24 - (8 * (nI i - nI i / 4 * 4))) &&& 31 : Int32) = nI (8 * (3 - i % 4)) &&& 31 := by decide +kernel
            rw [e2 i d]
          rw [e]
          refine ⟨vp_in_nI (by omega) (by decide), nm_e ?_⟩
          rw [nI_1]
          refine ih _ _ _ _ _ _ _ ⟨rfl, rfl, rfl, rfl, rfl, i + 1, by omega, rfl, fy.trans (Fr.A rfl), y3, fun j hj => ?_⟩ ?_
          · rw [gA_at, nI_clamp (by omega)]
            by_cases ej : j = t + i
            · subst ej
              rw [upd_at]
              unfold app
              rw [if_neg (by omega), show t + i - t = i by omega]
            · rw [upd_ne ej]
              exact hc j (by omega)
          · show 20 - (nI (i + 1)).toNatClampNeg < 20 - (nI i).toNatClampNeg
            rw [nI_clamp (by omega), nI_clamp (by omega)]
            omega
        refine br_f (by (first | omega | (simp (disch := omega) only [Int32.le_iff_toInt_le, Int32.lt_iff_toInt_lt, z_eq, z_in, nI_toInt, z_cl, z_m1, z_sg, z_255, Int32.reduceToInt] <;> omega) | (simp only [Int32.le_iff_toInt_le, Int32.lt_iff_toInt_lt, z_eq, z_in, z_add, z_sub, z_mul, z_neg, z_nI, z_cl, z_sg, z_255, z_lit, Int32.reduceToInt] <;> omega))) ⟨fun c4 => ⟨fun c8 => ⟨fun c12 => ⟨fun c16 => step _ ?_, fun c16 => step _ ?_⟩, fun c12 => step _ ?_⟩, fun c8 => step _ ?_⟩, fun c4 => step _ ?_⟩
        · have : ¬ i < 16 := by clear step ih hc; (first | omega | (simp (disch := omega) only [Int32.le_iff_toInt_le, Int32.lt_iff_toInt_lt, z_eq, z_in, nI_toInt, z_cl, z_m1, z_sg, z_255, Int32.reduceToInt] at * <;> omega) | (simp only [Int32.le_iff_toInt_le, Int32.lt_iff_toInt_lt, z_eq, z_in, z_add, z_sub, z_mul, z_neg, z_nI, z_cl, z_sg, z_255, z_lit, Int32.reduceToInt] at * <;> omega))
          rw [if_neg (by omega), if_neg (by omega), if_neg (by omega), if_neg this]
        · have a1 : ¬ i < 12 := by clear step ih hc; (first | omega | (simp (disch := omega) only [Int32.le_iff_toInt_le, Int32.lt_iff_toInt_lt, z_eq, z_in, nI_toInt, z_cl, z_m1, z_sg, z_255, Int32.reduceToInt] at * <;> omega) | (simp only [Int32.le_iff_toInt_le, Int32.lt_iff_toInt_lt, z_eq, z_in, z_add, z_sub, z_mul, z_neg, z_nI, z_cl, z_sg, z_255, z_lit, Int32.reduceToInt] at * <;> omega))
          have a2 : i < 16 := by clear step ih hc; (first | omega | (simp (disch := omega) only [Int32.le_iff_toInt_le, Int32.lt_iff_toInt_lt, z_eq, z_in, nI_toInt, z_cl, z_m1, z_sg, z_255, Int32.reduceToInt] at * <;> omega) | (simp only [Int32.le_iff_toInt_le, Int32.lt_iff_toInt_lt, z_eq, z_in, z_add, z_sub, z_mul, z_neg, z_nI, z_cl, z_sg, z_255, z_lit, Int32.reduceToInt] at * <;> omega))
          rw [if_neg (by omega), if_neg (by omega), if_neg a1, if_pos a2]
        · have a1 : ¬ i < 8 := by clear step ih hc; (first | omega | (simp (disch := omega) only [Int32.le_iff_toInt_le, Int32.lt_iff_toInt_lt, z_eq, z_in, nI_toInt, z_cl, z_m1, z_sg, z_255, Int32.reduceToInt] at * <;> omega) | (simp only [Int32.le_iff_toInt_le, Int32.lt_iff_toInt_lt, z_eq, z_in, z_add, z_sub, z_mul, z_neg, z_nI, z_cl, z_sg, z_255, z_lit, Int32.reduceToInt] at * <;> omega))
          have a2 : i < 12 := by clear step ih hc; (first | omega | (simp (disch := omega) only [Int32.le_iff_toInt_le, Int32.lt_iff_toInt_lt, z_eq, z_in, nI_toInt, z_cl, z_m1, z_sg, z_255, Int32.reduceToInt] at * <;> omega) | (simp only [Int32.le_iff_toInt_le, Int32.lt_iff_toInt_lt, z_eq, z_in, z_add, z_sub, z_mul, z_neg, z_nI, z_cl, z_sg, z_255, z_lit, Int32.reduceToInt] at * <;> omega))
          rw [if_neg (by omega), if_neg a1, if_pos a2]
        · have a1 : ¬ i < 4 := by clear step ih hc; (first | omega | (simp (disch := omega) only [Int32.le_iff_toInt_le, Int32.lt_iff_toInt_lt, z_eq, z_in, nI_toInt, z_cl, z_m1, z_sg, z_255, Int32.reduceToInt] at * <;> omega) | (simp only [Int32.le_iff_toInt_le, Int32.lt_iff_toInt_lt, z_eq, z_in, z_add, z_sub, z_mul, z_neg, z_nI, z_cl, z_sg, z_255, z_lit, Int32.reduceToInt] at * <;> omega))
          have a2 : i < 8 := by clear step ih hc; (first | omega | (simp (disch := omega) only [Int32.le_iff_toInt_le, Int32.lt_iff_toInt_lt, z_eq, z_in, nI_toInt, z_cl, z_m1, z_sg, z_255, Int32.reduceToInt] at * <;> omega) | (simp only [Int32.le_iff_toInt_le, Int32.lt_iff_toInt_lt, z_eq, z_in, z_add, z_sub, z_mul, z_neg, z_nI, z_cl, z_sg, z_255, z_lit, Int32.reduceToInt] at * <;> omega))
          rw [if_neg a1, if_pos a2]
        · have a2 : i < 4 := by clear step ih hc; (first | omega | (simp (disch := omega) only [Int32.le_iff_toInt_le, Int32.lt_iff_toInt_lt, z_eq, z_in, nI_toInt, z_cl, z_m1, z_sg, z_255, Int32.reduceToInt] at * <;> omega) | (simp only [Int32.le_iff_toInt_le, Int32.lt_iff_toInt_lt, z_eq, z_in, z_add, z_sub, z_mul, z_neg, z_nI, z_cl, z_sg, z_255, z_lit, Int32.reduceToInt] at * <;> omega))
          rw [if_pos a2]
      · have e : i = 20 := by omega
        subst e
        refine br_t (by decide) (nm_r (e' := setI y 0 3 (nI (t + 20))) (by rw [y3, show (20 : Int32) = nI 20 from rfl, nI_add]) (p1 c _ (fy.trans (Fr.I ⟨rfl, Or.inr rfl⟩)) ⟨rfl, c, fun j hj => ⟨hc j hj, ?_⟩⟩))
        unfold app
        split
        · rename_i g; exact (h3 j g).2
        · exact byt_bd _ _
    · unfold app
      rw [if_pos (by omega)]
      exact (h3 j (by omega)).1
  · exact br_f (fun z => c ((nI_leI (by omega) (by decide)).mp z)) (p0 c _ f0 ⟨h1, h2, h3⟩)
