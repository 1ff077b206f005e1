/-! the model: the groups in the footer -/
def tyC (F : List SFd) (c : Nat) : Nat := uI (fTy F (lfC F c))
def mdC (F : List SFd) (c : Nat) : Nat := dG F (nI (lfC F c))
def colsF (F : List SFd) (RS : List (List SEn)) (BL PG : Nat → Nat) (fr to wh : Nat) : Nat → List Nat
  | 0 => []
  | c + 1 => colsF F RS BL PG fr to wh c ++ chB RS.flatten (tyC F c) (mdC F c) (BL (wh + c)) (PG (wh + c)) (cs RS c fr to)
def gpF (F : List SFd) (RS : List (List SEn)) (BL PG : Nat → Nat) (g : Nat) : Nat → Nat → Nat → List Nat
  | 0, _, _ => []
  | d + 1, fr, wh => if RS.length ≤ fr then [] else varB (min RS.length (fr + g) - fr) ++ (colsF F RS BL PG fr (min RS.length (fr + g)) wh (ncol F) ++ gpF F RS BL PG g d (fr + g) (wh + ncol F))
theorem told_any {ty : Nat} {p : PV} (h : okVv ty p) : (toldB ty p).length ≤ 265 := told_len h
/-- what the records keep, as the footer wants it -/
def OkC (F : List SFd) (RS : List (List SEn)) : Prop := (∀ i, i < RS.flatten.length → (en RS.flatten i).1 < 64 ∧ (en RS.flatten i).2.2.1 < 128) ∧ ∀ c, c < ncol F → fTy F (lfC F c) = nI (tyC F c) ∧ tyC F c < 4 ∧ mdC F c ≤ 17 ∧ (∀ i, i < RS.flatten.length → (en RS.flatten i).1 = c → okVv (tyC F c) (pvI RS.flatten i)) ∧ ∀ fr to, fr ≤ to → to ≤ RS.length → okP (tyC F c) (pvs RS.flatten (vs RS.flatten (mdC F c) (cs RS c fr to))) ∨ (bndB (tyC F c) (pvs RS.flatten (vs RS.flatten (mdC F c) (cs RS c fr to)))).length ≤ 530
theorem chB_len {E : List SEn} {ty md bl pg : Nat} {es : List Nat} (h : (bndB ty (pvs E (vs E md es))).length ≤ 530) : (chB E ty md bl pg es).length ≤ 570 := by
  have a := varB_len bl
  have b := varB_len pg
  have c := varB_len es.length
  have d := varB_len (es.length - (vs E md es).length)
  unfold chB
  rw [List.length_append, List.length_append, List.length_append, List.length_append]
  omega
theorem s_footCols {post : St → Prop} {rec138 : Int32 → Int32 → Int32 → St → Prop} {x : St} {F : List SFd} {RS : List (List SEn)} {BL PG : Nat → Nat} {fr to wh g : Nat} {B : List Nat} (hL : LM x) (hw : WfS F) (hR : RepM x 0 F) (h : RcM x RS) (ho : OkC F RS) (hft : fr ≤ to) (hto : to ≤ RS.length) {NN : Nat} (hNN : NN ≤ 13400) (hwh : wh + ncol F ≤ NN) (h50 : ∀ i, i < NN → fA x 50 i = nI (BL i) ∧ BL i < 2 ^ 30 ∧ fA x 51 i = nI (PG i) ∧ PG i < 2 ^ 30) (hS : Sh x B) (hB : B.length ≤ 2 ^ 25) (hg : g ≤ 2000)
    (p : ∀ y, FrSh x y → Sh y (B ++ colsF F RS BL PG fr to wh (ncol F)) → (colsF F RS BL PG fr to wh (ncol F)).length ≤ 570 * ncol F → rec138 (nI g) (nI (wh + ncol F)) (nI (fr + g)) y) : ∃ n : Nat, wl_Mod_putFooter_180 post rec138 n (nI g) (nI wh) (nI fr) (nI to) 0 x := by
  have h4 := h.2.2.2.1
  have hc := hw.2.1
  refine lp_Mod_putFooter_180 (fun a0 a1 a2 a3 a4 y => nI g = a0 ∧ nI fr = a2 ∧ nI to = a3 ∧ ∃ c, nI c = a4 ∧ nI (wh + c) = a1 ∧ c ≤ ncol F ∧ FrSh x y ∧ Sh y (B ++ colsF F RS BL PG fr to wh c) ∧ (colsF F RS BL PG fr to wh c).length ≤ 570 * c) (fun _ _ _ _ a4 _ => ncol F - a4.toNatClampNeg) ?_ _ _ _ _ _ _ ⟨rfl, rfl, rfl, 0, rfl, rfl, Nat.zero_le _, Fg.refl x, by show Sh x (B ++ []); rw [List.append_nil]; exact hS, Nat.le_refl _⟩
  rintro Q a0 a1 a2 a3 a4 y ⟨rfl, rfl, rfl, c, rfl, rfl, c1, y1, y2, y3⟩ ih
  have hLy := y1.lm hL
  have hRy := y1.rep hR
  have e10 : fN y 10 = 3 := hLy 10
  unfold j_Mod_putFooter_180
  refine ⟨by rw [show (0 : Int32) = nI 0 from rfl]; exact vp_in_nI (by omega) (by omega), ?_⟩
  rw [show rA y 10 0 = nI (ncol F) from by rw [show (0 : Int32) = nI 0 from rfl, rA_nI (by decide)]; exact hRy.2.1]
  by_cases cc : c < ncol F
  · obtain ⟨o1, o2, o3, o4, o5⟩ := ho.2 c cc
    have k50 := h50 (wh + c) (by omega)
    have bn : (bndB (tyC F c) (pvs RS.flatten (vs RS.flatten (mdC F c) (cs RS c fr to)))).length ≤ 530 := by
      rcases o5 fr to hft hto with z | z
      · exact bnd_len z
      · exact z
    have cl := chB_len (bl := BL (wh + c)) (pg := PG (wh + c)) bn
    refine br_f (by (first | omega | (simp (disch := omega) only [Int32.le_iff_toInt_le, Int32.lt_iff_toInt_lt, z_eq, z_in, nI_toInt, z_cl, z_m1, z_sg, z_255, Int32.reduceToInt] <;> omega) | (simp only [Int32.le_iff_toInt_le, Int32.lt_iff_toInt_lt, z_eq, z_in, z_add, z_sub, z_mul, z_neg, z_nI, z_cl, z_sg, z_255, z_lit, Int32.reduceToInt] <;> omega))) (s_putChunk (bl := BL (wh + c)) (pg := PG (wh + c)) hLy hw hRy cc (by omega) o2 o1 (y1.rc h) hft hto (by omega) ho.1 o3 o4 ?_ ?_ k50.2.1 k50.2.2.2 y2 (by rw [List.length_append]; omega) (fun z z1 z2 => ?_))
    · show y.2.2.2.1 50 _ = _
      rw [y1.2.2.2.1 50 (by decide)]; exact k50.1
    · show y.2.2.2.1 51 _ = _
      rw [y1.2.2.2.1 51 (by decide)]; exact k50.2.2.1
    · rw [nI_1, nI_1]
      refine ih _ _ _ _ _ _ ⟨rfl, rfl, rfl, c + 1, rfl, rfl, by omega, Fg.trans y1 z1, ?_, ?_⟩ (by rw [nI_clamp (by omega), nI_clamp (by omega)]; omega)
      · show Sh z (B ++ (colsF F RS BL PG fr to wh c ++ _))
        rw [← List.append_assoc]
        exact z2
      · show (colsF F RS BL PG fr to wh c ++ _).length ≤ _
        rw [List.length_append]
        omega
  · have ec : c = ncol F := by omega
    subst ec
    refine br_t (by (first | omega | (simp (disch := omega) only [Int32.le_iff_toInt_le, Int32.lt_iff_toInt_lt, z_eq, z_in, nI_toInt, z_cl, z_m1, z_sg, z_255, Int32.reduceToInt] <;> omega) | (simp only [Int32.le_iff_toInt_le, Int32.lt_iff_toInt_lt, z_eq, z_in, z_add, z_sub, z_mul, z_neg, z_nI, z_cl, z_sg, z_255, z_lit, Int32.reduceToInt] <;> omega))) (nm_r (nI_add _ _) (p y y1 y2 y3))
theorem s_footGroups {post : St → Prop} {x : St} {F : List SFd} {RS : List (List SEn)} {BL PG : Nat → Nat} {g : Nat} {B : List Nat} (hL : LM x) (hw : WfS F) (hR : RepM x 0 F) (h : RcM x RS) (ho : OkC F RS) (hg1 : 1 ≤ g) (hg : g ≤ 2000) {NN : Nat} (hNN : NN ≤ 13400) (hwh : ∀ k, k * g < RS.length → (k + 1) * ncol F ≤ NN) (hk : ∀ k, k * g < RS.length → k < 500) (h50 : ∀ i, i < NN → fA x 50 i = nI (BL i) ∧ BL i < 2 ^ 30 ∧ fA x 51 i = nI (PG i) ∧ PG i < 2 ^ 30) (hS : Sh x B) (hB : B.length ≤ 2 ^ 20)
    (p : ∀ y, FrSh x y → Sh y (B ++ gpF F RS BL PG g RS.length 0 0) → (gpF F RS BL PG g RS.length 0 0).length ≤ 18245000 → post y) : ∃ n : Nat, wl_Mod_putFooter_138 post n (nI g) 0 0 x := by
  have h4 := h.2.2.2.1
  have h34 := h.2.2.1
  have hc := hw.2.1
  refine lp_Mod_putFooter_138 (fun a0 a1 a2 y => nI g = a0 ∧ ∃ k d D, nI (k * ncol F) = a1 ∧ nI (k * g) = a2 ∧ RS.length ≤ k * g + d ∧ k * g ≤ RS.length + g ∧ k ≤ 500 ∧ FrSh x y ∧ Sh y (B ++ D) ∧ D.length ≤ 36490 * k ∧ D ++ gpF F RS BL PG g d (k * g) (k * ncol F) = gpF F RS BL PG g RS.length 0 0) (fun _ _ a2 _ => RS.length + 1 - a2.toNatClampNeg) ?_ _ _ _ _ ⟨rfl, 0, RS.length, [], by rw [Nat.zero_mul]; rfl, by rw [Nat.zero_mul]; rfl, by omega, by omega, by omega, Fg.refl x, by rw [List.append_nil]; exact hS, Nat.zero_le _, by rw [List.nil_append, Nat.zero_mul, Nat.zero_mul]⟩
  rintro Q a0 a1 a2 y ⟨rfl, k, d, D, rfl, rfl, k1, k2, k3, y1, y2, y3, y4⟩ ih
  have e34 : fI y 0 34 = nI RS.length := (y1.1 0 34 (by decide)).trans h34
  unfold j_Mod_putFooter_138
  rw [e34]
  by_cases c : k * g < RS.length
  · have hkk := hk k c
    have hww := hwh k c
    have s1 : (k + 1) * ncol F = k * ncol F + ncol F := Nat.succ_mul _ _
    have s2 : (k + 1) * g = k * g + g := Nat.succ_mul _ _
    obtain ⟨d', rfl⟩ : ∃ d', d = d' + 1 := ⟨d - 1, by omega⟩
    have key : ∀ to, to = min RS.length (k * g + g) → j_Mod_putFooter_166 post Q (nI g) (nI (k * ncol F)) (nI (k * g)) (nI to) y := fun to ht => by
      unfold j_Mod_putFooter_166
      rw [nI_sub (by omega), nI_l (by omega)]
      have b3 : 36490 * k ≤ 36490 * 500 := Nat.mul_le_mul_left _ (by omega)
      refine s_varint y2 (by rw [List.length_append]; omega) (fun z z1 z2 => ?_)
      rw [uL_lN (by omega)] at z2
      have v1 := varB_len (to - k * g)
      have fz : FrSh x z := Fg.trans y1 z1
      refine s_footCols (BL := BL) (PG := PG) (NN := NN) (fz.lm hL) hw (fz.rep hR) (fz.rc h) ho (by omega) (by omega) hNN (by omega) (fun i hi => ?_) z2 (by rw [List.length_append, List.length_append]; omega) hg (fun w w1 w2 w3 => ?_)
      · have q := h50 i hi
        refine ⟨?_, q.2.1, ?_, q.2.2.2⟩
        · show z.2.2.2.1 50 i = _
          rw [fz.2.2.2.1 50 (by decide)]; exact q.1
        · show z.2.2.2.1 51 i = _
          rw [fz.2.2.2.1 51 (by decide)]; exact q.2.2.1
      · have cl : (colsF F RS BL PG (k * g) to (k * ncol F) (ncol F)).length ≤ 36480 := Nat.le_trans w3 (by omega)
        refine ih _ _ _ _ ⟨rfl, k + 1, d', D ++ (varB (to - k * g) ++ colsF F RS BL PG (k * g) to (k * ncol F) (ncol F)), by rw [s1], by rw [s2], by omega, by omega, by omega, Fg.trans fz w1, ?_, ?_, ?_⟩ (by rw [nI_clamp (by omega), nI_clamp (by omega)]; omega)
        · simp only [List.append_assoc] at w2 ⊢
          exact w2
        · rw [List.length_append, List.length_append]
          omega
        · rw [← y4, s1, s2]
          simp only [gpF]
          rw [if_neg (by omega), ← ht]
          simp only [List.append_assoc]
    refine br_f (by (first | omega | (simp (disch := omega) only [Int32.le_iff_toInt_le, Int32.lt_iff_toInt_lt, z_eq, z_in, nI_toInt, z_cl, z_m1, z_sg, z_255, Int32.reduceToInt] <;> omega) | (simp only [Int32.le_iff_toInt_le, Int32.lt_iff_toInt_lt, z_eq, z_in, z_add, z_sub, z_mul, z_neg, z_nI, z_cl, z_sg, z_255, z_lit, Int32.reduceToInt] <;> omega))) ?_
    rw [nI_add]
    by_cases c2 : RS.length ≤ k * g + g
    · exact br_t (by (first | omega | (simp (disch := omega) only [Int32.le_iff_toInt_le, Int32.lt_iff_toInt_lt, z_eq, z_in, nI_toInt, z_cl, z_m1, z_sg, z_255, Int32.reduceToInt] <;> omega) | (simp only [Int32.le_iff_toInt_le, Int32.lt_iff_toInt_lt, z_eq, z_in, z_add, z_sub, z_mul, z_neg, z_nI, z_cl, z_sg, z_255, z_lit, Int32.reduceToInt] <;> omega))) (key _ (by omega))
    · exact br_f (by (first | omega | (simp (disch := omega) only [Int32.le_iff_toInt_le, Int32.lt_iff_toInt_lt, z_eq, z_in, nI_toInt, z_cl, z_m1, z_sg, z_255, Int32.reduceToInt] <;> omega) | (simp only [Int32.le_iff_toInt_le, Int32.lt_iff_toInt_lt, z_eq, z_in, z_add, z_sub, z_mul, z_neg, z_nI, z_cl, z_sg, z_255, z_lit, Int32.reduceToInt] <;> omega))) (key _ (by omega))
  · have e0 : gpF F RS BL PG g d (k * g) (k * ncol F) = [] := by
      cases d with
      | zero => rfl
      | succ d => simp only [gpF]; exact if_pos (by omega)
    rw [e0, List.append_nil] at y4
    have b3 : 36490 * k ≤ 36490 * 500 := Nat.mul_le_mul_left _ (by omega)
    refine br_t (by (first | omega | (simp (disch := omega) only [Int32.le_iff_toInt_le, Int32.lt_iff_toInt_lt, z_eq, z_in, nI_toInt, z_cl, z_m1, z_sg, z_255, Int32.reduceToInt] <;> omega) | (simp only [Int32.le_iff_toInt_le, Int32.lt_iff_toInt_lt, z_eq, z_in, z_add, z_sub, z_mul, z_neg, z_nI, z_cl, z_sg, z_255, z_lit, Int32.reduceToInt] <;> omega))) (p y y1 ?_ ?_)
    · rw [← y4]
      exact y2
    · rw [← y4]
      omega
