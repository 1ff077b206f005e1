/-! the class: NUMBERS -/
/-- nothing but the scan's own fields has changed -/
def FrT (x y : St) : Prop := (∀ o k, ¬ o = 10 → y.1 o k = x.1 o k) ∧ (∀ o k, ¬ o = 10 → y.2.1 o k = x.2.1 o k) ∧ y.2.2 = x.2.2
theorem FrT.refl (x : St) : FrT x x := ⟨fun _ _ _ => rfl, fun _ _ _ => rfl, rfl⟩
theorem FrT.trans {x y z : St} (h : FrT x y) (k : FrT y z) : FrT x z := ⟨fun o i c => (k.1 o i c).trans (h.1 o i c), fun o i c => (k.2.1 o i c).trans (h.2.1 o i c), k.2.2.trans h.2.2⟩
theorem FrT.i {x : St} {a : Nat} {v : Int32} : FrT x (setI x 10 a v) := by
  refine ⟨fun o k c => ?_, fun _ _ _ => rfl, rfl⟩
  show (if o = 10 ∧ k = a then v else x.1 o k) = _
  rw [if_neg (fun z => c z.1)]
theorem FrT.j {x : St} {a : Nat} {v : Int64} : FrT x (setJ x 10 a v) := by
  refine ⟨fun _ _ _ => rfl, fun o k c => ?_, rfl⟩
  show (if o = 10 ∧ k = a then v else x.2.1 o k) = _
  rw [if_neg (fun z => c z.1)]
theorem FrN.t {x y : St} (h : FrN x y) : FrT x y := by
  refine ⟨fun o k c => h.1 o k c, fun o k _ => by rw [h.2.2.1], ?_⟩
  exact Prod.ext h.2.2.2.1 (Prod.ext (funext (fun a => h.2.1 a (fun z => z))) h.2.2.2.2)
theorem ScC.j {x : St} {q a : Nat} {T : Nat → Int32} {n k : Nat} {e : Int32} {v : Int64} (h : ScC x q T n k e) : ScC (setJ x 10 a v) q T n k e := h
theorem sg_dgt {v : Int32} (h0 : 0 ≤ v) (h1 : v ≤ 255) : dgt v.toInt8.toInt32 ↔ dgt v := by
  unfold dgt
  constructor <;> intro e <;> (first | omega | (simp (disch := omega) only [Int32.le_iff_toInt_le, Int32.lt_iff_toInt_lt, z_eq, z_in, nI_toInt, z_cl, z_m1, z_sg, z_255, Int32.reduceToInt] at * <;> omega) | (simp only [Int32.le_iff_toInt_le, Int32.lt_iff_toInt_lt, z_eq, z_in, z_add, z_sub, z_mul, z_neg, z_nI, z_cl, z_sg, z_255, z_lit, Int32.reduceToInt] at * <;> omega))
theorem sg_dig {v : Int32} (h : dgt v) : v.toInt8.toInt32 = v := by
  unfold dgt at h
  (first | omega | (simp (disch := omega) only [Int32.le_iff_toInt_le, Int32.lt_iff_toInt_lt, z_eq, z_in, nI_toInt, z_cl, z_m1, z_sg, z_255, Int32.reduceToInt] at * <;> omega) | (simp only [Int32.le_iff_toInt_le, Int32.lt_iff_toInt_lt, z_eq, z_in, z_add, z_sub, z_mul, z_neg, z_nI, z_cl, z_sg, z_255, z_lit, Int32.reduceToInt] at * <;> omega))
theorem d_readDigits {post : Int32 → St → Prop} {q : Nat} {x : St} {T : Nat → Int32} {n k : Nat} {e : Int32} (h : ScC x q T n k e)
    (p : ∀ r y, FrT x y → ScC y q T n (dgO T n k 0 false).1 e → ((dgO T n k 0 false).2.2 = false → r = 1 ∧ fJ y 10 6 = (dgO T n k 0 false).2.1) → ((dgO T n k 0 false).2.2 = true → r = 0) → post r y) : wp_Scn_readDigits post 10 x := by
  unfold wp_Scn_readDigits
  refine nm_e ?_
  refine lp_Scn_readDigits_7 (fun a0 a1 y => 10 = a0 ∧ ∃ j v b, k ≤ j ∧ FrT x y ∧ ScC y q T n j e ∧ dgO T n k 0 false = dgO T n j v b ∧ (b = false → a1 = 1 ∧ fJ y 10 6 = v) ∧ (b = true → a1 = 0)) (fun _ _ y => n - (fI y 10 2).toNatClampNeg) ?_ _ _ _ ⟨rfl, k, 0, false, Nat.le_refl _, FrT.j, h.j, rfl, fun _ => ⟨rfl, rfl⟩, fun z => absurd z (by decide)⟩
  rintro R a0 a1 y ⟨rfl, j, v, b, j1, fy, sy, hr, hf, ht⟩ ih
  have hn := sy.1.2.2.1
  have hj := sy.2.2.2
  unfold j_Scn_readDigits_7
  rw [sy.1.2.1, sy.2.1]
  have fin : ¬ (j < n ∧ dgt (T j)) → j_Scn_readDigits_106 post 10 a1 y := by
    intro c
    rw [dgO_no c] at hr
    unfold j_Scn_readDigits_106
    have ha : a1 = 1 ∨ a1 = 0 := by
      cases b with
      | false => exact Or.inl (hf rfl).1
      | true => exact Or.inr (ht rfl)
    refine ⟨by rcases ha with z | z <;> rw [z] <;> rfl, p a1 y fy (by rw [hr]; exact sy) (by rw [hr]; exact hf) (by rw [hr]; exact ht)⟩
  by_cases c : j < n
  · obtain ⟨r1, r2, r3⟩ := sy.1.rd c
    have hb := (sy.1.2.2.2.2.2 j c).2
    refine br_f (by (first | omega | (simp (disch := omega) only [Int32.le_iff_toInt_le, Int32.lt_iff_toInt_lt, z_eq, z_in, nI_toInt, z_cl, z_m1, z_sg, z_255, Int32.reduceToInt] <;> omega) | (simp only [Int32.le_iff_toInt_le, Int32.lt_iff_toInt_lt, z_eq, z_in, z_add, z_sub, z_mul, z_neg, z_nI, z_cl, z_sg, z_255, z_lit, Int32.reduceToInt] <;> omega))) ⟨q, sy.1.1, r2, ?_⟩
    rw [r1]
    refine c_isDigit ?_
    by_cases d : dgt (T j)
    · rw [if_pos ((sg_dgt hb.1 hb.2).mpr d)]
      refine br_f (by decide) ⟨q, sy.1.1, by rw [sy.2.1]; exact r2, nm_r (e' := T j - 48) (by rw [sy.2.1, r1, sg_dig d]) ?_⟩
      have step : ∀ (w : Int32) (z : St), FrT x z → ScC z q T n j e → ((b || decide (v < ((-9223372036854775808) + (T j - 48).toInt64) / 10)) = false → w = 1 ∧ fJ z 10 6 = 10 * v - (T j - 48).toInt64) → ((b || decide (v < ((-9223372036854775808) + (T j - 48).toInt64) / 10)) = true → w = 0) → j_Scn_readDigits_93 post R 10 w (T j - 48) z := by
        intro w z z1 z2 z3 z4
        unfold j_Scn_readDigits_93
        rw [z2.2.1, nI_1]
        refine nm_e (ih _ _ _ ⟨rfl, j + 1, _, _, by omega, z1.trans FrT.i, z2.go (by omega), by rw [hr, dgO_go c d], z3, z4⟩ ?_)
        show n - (nI (j + 1)).toNatClampNeg < n - (fI y 10 2).toNatClampNeg
        rw [sy.2.1, nI_clamp (by omega), nI_clamp (by omega)]
        omega
      have far : (b || decide (v < ((-9223372036854775808) + (T j - 48).toInt64) / 10)) = true → j_Scn_readDigits_72 post R 10 a1 (T j - 48) y := by
        intro z
        unfold j_Scn_readDigits_72 j_Scn_readDigits_73
        exact br_t rfl (step 0 y fy sy (fun w => by rw [z] at w; exact absurd w (by decide)) (fun _ => rfl))
      by_cases cb : b = true
      · exact br_t (ht cb) (far (by rw [cb]; rfl))
      · have cb2 := bt_f cb
        obtain ⟨f1, f2⟩ := hf cb2
        refine br_f (by rw [f1]; decide) ?_
        rw [f2]
        refine ⟨fun z => far ?_, fun z => ?_⟩
        · rw [decide_eq_true ((lg_cmp_lt _ _).mp z), Bool.or_true]
        · have nz : ¬ v < ((-9223372036854775808) + (T j - 48).toInt64) / 10 := fun w => z ((lg_cmp_lt _ _).mpr w)
          unfold j_Scn_readDigits_73
          refine br_f (by decide) (nm_e (step 1 _ (fy.trans FrT.j) sy.j (fun _ => ⟨rfl, ?_⟩) (fun w => ?_)))
          · show fJ y 10 6 * 10 - (T j - 48).toInt64 = _
            rw [f2, Int64.mul_comm]
          · rw [cb2, Bool.false_or] at w
            exact absurd (of_decide_eq_true w) nz
    · rw [if_neg (fun z => d ((sg_dgt hb.1 hb.2).mp z))]
      exact br_t rfl (fin (fun z => d z.2))
  · exact br_t (by (first | omega | (simp (disch := omega) only [Int32.le_iff_toInt_le, Int32.lt_iff_toInt_lt, z_eq, z_in, nI_toInt, z_cl, z_m1, z_sg, z_255, Int32.reduceToInt] <;> omega) | (simp only [Int32.le_iff_toInt_le, Int32.lt_iff_toInt_lt, z_eq, z_in, z_add, z_sub, z_mul, z_neg, z_nI, z_cl, z_sg, z_255, z_lit, Int32.reduceToInt] <;> omega))) (fin (fun z => c z.1))
theorem dgO_le {T : Nat → Int32} {n k : Nat} {v : Int64} {b : Bool} (h : k ≤ n) : k ≤ (dgO T n k v b).1 ∧ (dgO T n k v b).1 ≤ n := dgR_le T n _ k v b h
theorem dgO_pos {T : Nat → Int32} {n k : Nat} {v : Int64} {b : Bool} (h : k < n ∧ dgt (T k)) : k < (dgO T n k v b).1 := by
  rw [dgO_go h.1 h.2]
  have := @dgO_le T n (k + 1) (10 * v - (T k - 48).toInt64) (b || decide (v < ((-9223372036854775808) + (T k - 48).toInt64) / 10)) (by omega)
  omega
theorem d_readNumber {post : St → Prop} {q : Nat} {wd : Int32} {x : St} {T : Nat → Int32} {n k : Nat} (h : ScC x q T n k (-1))
    (p1 : ∀ k2 v, nmOk T n k k2 v → (wd = 0 → v = v.toInt32.toInt64) → ∀ y, FrT x y → ScC y q T n k2 (-1) → fJ y 10 6 = v → post y)
    (p0 : ∀ k2 e, (nmEr T n k k2 e ∨ ∃ v, nmOk T n k k2 v ∧ wd = 0 ∧ ¬ v = v.toInt32.toInt64 ∧ e = k) → ∀ y, FrT x y → ScC y q T n k2 (nI e) → post y) : wp_Scn_readNumber post 10 wd x := by
  have hn := h.1.2.2.1
  have hk := h.2.2.2
  have main : ∀ (mi : Int32) (X : St), (mi = 0 ↔ ¬ (k < n ∧ T k = 45)) → FrT x X → ScC X q T n (nmK T n k) (-1) → j_Scn_readNumber_38 post 10 wd (nI k) mi X := by
    intro mi X hmi fX sX
    have hK2 : k ≤ nmK T n k := by unfold nmK; split <;> omega
    generalize hK : nmK T n k = k1 at *
    have hk1 := sX.2.2.2
    have hle := @dgO_le T n k1 0 false hk1
    unfold j_Scn_readNumber_38
    refine nm_r (e' := nI k1) sX.2.1 (d_readDigits sX (fun r y fy sy hf ht => ?_))
    generalize hD : dgO T n k1 0 false = D at *
    refine nm_r (e' := nI (D.1 - k1)) (by rw [sy.2.1]; exact nI_sub hle.1) ?_
    by_cases d : k1 < n ∧ dgt (T k1)
    · have hp := @dgO_pos T n k1 0 false d
      rw [hD] at hp
      refine bn_f (fun z => by have := (nI_eq (b := 0) (by omega) (by decide)).mp z; omega) (c_byteAt sy.1 (by omega) ?_)
      rw [if_pos d.1]
      have bad : nmBad T (k < n ∧ T k = 45) k1 D → ∀ l7, j_Scn_readNumber_139 post 10 wd (nI k) mi (nI k1) r (nI (D.1 - k1)) l7 y := by
        intro w l7
        unfold j_Scn_readNumber_139
        refine c_refuse ?_
        rw [if_pos sy.2.2.1]
        refine p0 D.1 k (Or.inl (Or.inr ⟨?_, ?_, ?_, rfl⟩)) _ ((fX.trans fy).trans FrT.i) sy.ill
        · unfold nmD; rw [hK]; exact d
        · rw [hK, hD]
        · rw [hK, hD]; exact w
      have fin : ∀ (v : Int64) (Y : St) (l7 : Int32), nmOk T n k D.1 v → FrT x Y → ScC Y q T n D.1 (-1) → fJ Y 10 6 = v → j_Scn_readNumber_158 post 10 wd (nI k) mi (nI k1) r (nI (D.1 - k1)) l7 Y := by
        intro v Y l7 w1 w2 w3 w4
        unfold j_Scn_readNumber_158
        rw [w4]
        refine ⟨fun z => p1 D.1 v w1 (fun u => absurd u z) Y w2 w3 w4, fun z => ⟨fun u => p1 D.1 v w1 (fun _ => (lg_cmp_eq _ _).mp u) Y w2 w3 w4, fun u => c_refuse ?_⟩⟩
        rw [if_pos w3.2.2.1]
        exact p0 D.1 k (Or.inr ⟨v, w1, z, fun b => u ((lg_cmp_eq _ _).mpr b), rfl⟩) _ (w2.trans FrT.i) w3.ill
      have good : ¬ nmBad T (k < n ∧ T k = 45) k1 D → ∀ l7, j_Scn_readNumber_145 post 10 wd (nI k) mi (nI k1) r (nI (D.1 - k1)) l7 y := by
        intro w l7
        obtain ⟨f1, f2⟩ := hf (bt_f (fun z => w (Or.inl z)))
        have ok : ∀ v, (v = if k < n ∧ T k = 45 then D.2.1 else -D.2.1) → nmOk T n k D.1 v := fun v hv => ⟨by unfold nmD; rw [hK]; exact d, by rw [hK, hD], by rw [hK, hD]; exact w, by rw [hK, hD]; exact hv⟩
        unfold j_Scn_readNumber_145
        refine ⟨fun z => fin D.2.1 y l7 (ok _ ?_) (fX.trans fy) sy f2, fun z => nm_e (fin (-D.2.1) _ l7 (ok _ ?_) ((fX.trans fy).trans FrT.j) sy.j ?_)⟩
        · rw [if_pos (Classical.byContradiction (fun u => z (hmi.mpr u)))]
        · rw [if_neg (hmi.mp z)]
        · show -fJ y 10 6 = _
          rw [f2]
      have m112 : ∀ t : Int32, (t = 0 ↔ ¬ (T k1 = 48 ∧ ((k < n ∧ T k = 45) ∨ k1 + 1 < D.1))) → j_Scn_readNumber_112 post 10 wd (nI k) mi (nI k1) r (nI (D.1 - k1)) t y := by
        intro t hT
        unfold j_Scn_readNumber_112
        by_cases ct : t = 0
        · refine bn_t ct ?_
          by_cases cb : D.2.2 = true
          · exact br_t (ht cb) (bad (Or.inl cb) _)
          · obtain ⟨f1, f2⟩ := hf (bt_f cb)
            refine br_f (by rw [f1]; decide) ⟨fun z => good ?_ _, fun z => ?_⟩
            · rintro (u | u | u)
              · exact cb u
              · exact hT.mp ct u
              · exact z (hmi.mpr u.1)
            · rw [f2]
              refine ⟨fun u => good ?_ _, fun u => bad (Or.inr (Or.inr ⟨hmi.mp z, (lg_cmp_eq _ _).mp u⟩)) _⟩
              rintro (a | a | a)
              · exact cb a
              · exact hT.mp ct a
              · exact u ((lg_cmp_eq _ _).mpr a.2)
        · exact bn_f ct (bad (Or.inr (Or.inl (Classical.byContradiction (fun u => ct (hT.mpr u))))) _)
      unfold j_Scn_readNumber_111 j_Scn_readNumber_107
      refine ⟨fun z => m112 0 ⟨fun _ u => z u.1, fun _ => rfl⟩, fun z => ⟨fun w => m112 1 ⟨fun u => absurd u (by decide), fun u => absurd ⟨z, Or.inl (Classical.byContradiction (fun b => w (hmi.mpr b)))⟩ u⟩, fun w => ⟨fun a => m112 0 ⟨fun _ u => ?_, fun _ => rfl⟩, fun a => m112 1 ⟨fun u => absurd u (by decide), fun u => absurd ⟨z, Or.inr ?_⟩ u⟩⟩⟩⟩
      · have a : D.1 - k1 ≤ 1 := (nI_leI (b := 1) (by omega) (by decide)).mp a
        rcases u.2 with b | b
        · exact hmi.mp w b
        · omega
      · have a : ¬ D.1 - k1 ≤ 1 := fun b => a (nI_le (b := 1) b (by decide))
        omega
    · have eD : D = (k1, 0, false) := by rw [← hD]; exact dgO_no d
      have e1 : D.1 = k1 := by rw [eD]
      refine bn_t (by rw [e1, Nat.sub_self]; rfl) ?_
      unfold j_Scn_readNumber_82
      rw [sy.1.2.1]
      have er : ∀ e, (e = if k1 = n then n else k) → nmEr T n k k1 e := fun e he => Or.inl ⟨by unfold nmD; rw [hK]; exact d, hK.symm, by rw [hK]; exact he⟩
      rw [e1] at sy
      refine ⟨fun z => c_refuse ?_, fun z => c_refuse ?_⟩
      · rw [if_pos sy.2.2.1]
        have z : k1 < n := (nI_ltI (by omega) (by omega)).mp z
        exact p0 k1 k (Or.inl (er k (by rw [if_neg (by omega)]))) _ ((fX.trans fy).trans FrT.i) sy.ill
      · rw [if_pos sy.2.2.1]
        have z : ¬ k1 < n := fun w => z ((nI_ltI (by omega) (by omega)).mpr w)
        exact p0 k1 n (Or.inl (er n (by rw [if_pos (by omega)]))) _ ((fX.trans fy).trans FrT.i) sy.ill
  unfold wp_Scn_readNumber
  refine nm_r (e' := nI k) h.2.1 ?_
  rw [h.2.1]
  refine c_byteAt h.1 (by omega) ?_
  unfold j_Scn_readNumber_23
  by_cases c : k < n ∧ T k = 45
  · rw [if_pos c.1]
    have eK : nmK T n k = k + 1 := by unfold nmK; rw [if_pos c]
    refine bn_t c.2 (br_f (by decide) (nm_r (e' := setI x 10 2 (nI (k + 1))) (by rw [h.2.1, nI_1]) (main 1 _ ⟨fun u => absurd u (by decide), fun u => absurd c u⟩ FrT.i ?_)))
    rw [eK]
    exact h.go (by omega)
  · have eK : nmK T n k = k := by unfold nmK; rw [if_neg c]
    refine bn_f (fun u => ?_) (br_t rfl (main 0 x ⟨fun _ => c, fun _ => rfl⟩ (FrT.refl x) (by rw [eK]; exact h)))
    by_cases c2 : k < n
    · rw [if_pos c2] at u; exact c ⟨c2, u⟩
    · rw [if_neg c2] at u; exact absurd u (by decide)
