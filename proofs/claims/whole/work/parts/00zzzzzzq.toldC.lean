/-! a Source reads letters and told values -/
/-- a long stands for a number, or for bytes of the pool below b -/
def RfP (x : St) (b ty : Nat) (v : Int64) (p : PV) : Prop := (ty ≠ 3 → v = p.1) ∧ (ty = 3 → okT p.2 ∧ ∃ a, v = lN (256 * a + p.2.length) ∧ a + p.2.length ≤ b ∧ ∀ j, j < p.2.length → fA x 82 (a + j) = (p.2.getD j 0).toInt8.toInt32)
theorem RfP.c {x : St} {b ty : Nat} {v : Int64} {p : PV} (h : RfP x b ty v p) (hL : LC x) (hb : b ≤ 120255) : RfC x 82 ty v p := by
  refine ⟨h.1, fun z => ?_⟩
  obtain ⟨h1, a, h2, h3, h4⟩ := h.2 z
  have e : fN x 82 = 120255 := hL 82 (by decide)
  exact ⟨h1, by omega, a, h2, by omega, h4⟩
theorem RfP.up {x y : St} {b c ty : Nat} {v : Int64} {p : PV} (h : RfP x b ty v p) (e : ∀ i, i < b → fA y 82 i = fA x 82 i) (hb : b ≤ c) : RfP y c ty v p := by
  refine ⟨h.1, fun z => ?_⟩
  obtain ⟨h1, a, h2, h3, h4⟩ := h.2 z
  exact ⟨h1, a, h2, by omega, fun j hj => (e _ (by omega)).trans (h4 j hj)⟩
theorem RfP.same {x y : St} {b ty : Nat} {v : Int64} {p : PV} (h : RfP x b ty v p) (e : fA y 82 = fA x 82) : RfP y b ty v p := h.up (fun i _ => by rw [e]) (Nat.le_refl _)
section
variable {x : St} {T : Nat → Nat} {n st p o : Nat}
theorem k_let0 {post : Int64 → St → Prop} {v : Int64} (h0 : ¬ fI x o 3 = 0) (q : post 0 x) : wp_Src_readLetters post o v x := by
  have J : ∀ b, j_Src_readLetters_20 post o v b o x := fun b => by
    unfold j_Src_readLetters_20
    exact k_ckf h0 (k_has0 h0 (bn_t rfl q))
  unfold wp_Src_readLetters j_Src_readLetters_19
  exact ⟨fun _ => J 0, fun _ => ⟨fun _ => J 0, fun _ => J 1⟩⟩
theorem txs_rf (hF : FiC x T n) {a m b : Nat} (hm : m ≤ 255) (ha : a + m ≤ n) (hb : n ≤ b) : RfP x b 3 (lN (256 * a + m)) (0, txs T a m) := by
  refine ⟨fun z => absurd rfl z, fun _ => ⟨txs_ok hF.2.2.1 hm, a, by rw [show ((0, txs T a m) : PV).2.length = m from txs_len], by rw [show ((0, txs T a m) : PV).2.length = m from txs_len]; omega, fun j hj => ?_⟩⟩
  rw [show ((0, txs T a m) : PV).2.length = m from txs_len] at hj
  rw [hF.2.2.2 _ (by omega), show ((0, txs T a m) : PV).2.getD j 0 = nI (T (a + j)) from txs_at hj]
theorem k_let {post : Int64 → St → Prop} {m b : Nat} (S : Sr o x T n p st) (hm : m < 2 ^ 64) (hb : n ≤ b) (pe : ∀ e y, (255 < m ∧ e = 7 ∨ m ≤ 255 ∧ st < p + m ∧ e = 1) → FrSr o x y → FlC o y e → post 0 y) (pk : m ≤ 255 → p + m ≤ st → ∀ y, FrSr o x y → Sr o y T n (p + m) st → RfP y b 3 (lN (256 * p + m)) (0, txs T p m) → post (lN (256 * p + m)) y) : wp_Src_readLetters post o (lN m) x := by
  have hS := S.le
  have J0 : 255 < m → j_Src_readLetters_20 post o (lN m) 0 o x := fun c => by
    unfold j_Src_readLetters_20
    exact r_ck0 7 S (by decide) (by decide) (fun y y1 y2 => k_has0 y2.ne (bn_t rfl (pe 7 y (Or.inl ⟨c, rfl⟩) y1 y2)))
  have J1 : m ≤ 255 → j_Src_readLetters_20 post o (lN m) 1 o x := fun c => by
    unfold j_Src_readLetters_20
    refine k_ck1 (r_has hm S (fun y c1 y1 y2 => bn_t rfl (pe 1 y (Or.inr ⟨c, c1, rfl⟩) y1 y2)) (fun c1 => bn_f (by decide) ?_))
    unfold wp_V_reference
    rw [lN_i, S.hp, show (nI p).toInt64 = lN p from nI_l (by omega), show (nI m).toInt64 = lN m from nI_l (by omega), show (256 : Int64) = lN 256 from rfl, lN_mul, lN_add, Nat.mul_comm p]
    show ∀ x7, x7 = setI x o 1 (fI x o 1 + nI m) → post (lN (256 * p + m)) x7
    rw [S.hp, nI_add]
    refine nm_e ?_
    have f : FrSr o x (setI x o 1 (nI (p + m))) := Fg.i ⟨rfl, by decide⟩
    exact pk c c1 _ f (f.mv S gI_at ((gI_ne (by decide)).trans S.h0) c1) (txs_rf (f.fi S.1) c (by omega) hb)
  unfold wp_Src_readLetters j_Src_readLetters_19
  rw [lg_cmp_lt, lN_neg2 hm, lg_cmp_gt, show (255 : Int64) = lN 255 from rfl]
  by_cases c : m ≤ 255
  · exact ⟨fun z => by omega, fun _ => ⟨fun z => by rw [lN_lt2 (by decide) (by omega)] at z; omega, fun _ => J1 c⟩⟩
  · refine ⟨fun _ => J0 (by omega), fun z => ⟨fun _ => J0 (by omega), fun w => absurd ?_ w⟩⟩
    rw [lN_lt2 (by decide) (by omega)]
    omega
theorem k_tld0 {post : Int64 → St → Prop} {ty : Int32} (h0 : ¬ fI x o 3 = 0) (q : ∀ v, post v x) : wp_Src_readTold post o ty x := by
  unfold wp_Src_readTold j_Src_readTold_64 j_Src_readTold_69 j_Src_readTold_34
  refine ⟨fun _ => ⟨fun _ => k_vrd0 h0 (k_uz (v := 0) (by decide) ⟨fun _ => k_ckf h0 (q _), fun _ => ⟨fun _ => k_ckf h0 (q _), fun _ => k_ckf h0 (q _)⟩⟩), fun _ => k_byte0 h0 ⟨fun _ => k_ckf h0 (q _), fun _ => k_ckf h0 (q _)⟩⟩, fun _ => k_vrd0 h0 (k_let0 h0 (q 0))⟩
theorem k_tld {post : Int64 → St → Prop} {ty b : Nat} (ho : SrO o) (S : Sr o x T n p st) (hty : ty < 4) (hb : n ≤ b) (pe : ∀ e y, tld T ty st p = .error e → FrSr o x y → FlC o y e → ∀ v, post v y) (pk : ∀ pv q y v, tld T ty st p = .ok (pv, q) → FrSr o x y → Sr o y T n q st → RfP y b ty v pv → post v y) : wp_Src_readTold post o (nI ty) x := by
  have hS := S.le
  unfold wp_Src_readTold j_Src_readTold_64 j_Src_readTold_69 j_Src_readTold_34
  by_cases c3 : ty = 3
  · subst c3
    refine bn_t rfl (r_vrd ho S (fun e y y1 y2 y3 => k_let0 y3.ne (pe e y ?_ y2 y3 _)) (fun m q y y1 y2 Sy v1 v2 => ?_))
    · unfold tld; rw [if_neg (by decide), if_pos rfl, y1]
    · have et : tld T 3 st p = (if 255 < m then .error 7 else if st < q + m then .error 1 else .ok ((0, txs T q m), q + m)) := by unfold tld; rw [if_neg (by decide), if_pos rfl, y1]
      refine k_let Sy v1 hb (fun e z z1 z2 z3 => pe e z ?_ (Fg.trans y2 z2) z3 _) (fun c1 c2 z z1 Sz z2 => pk _ _ z _ ?_ (Fg.trans y2 z1) Sz z2)
      · rw [et]
        rcases z1 with ⟨a, a2⟩ | ⟨a, a2, a3⟩
        · rw [if_pos a, a2]
        · rw [if_neg (by omega), if_pos a2, a3]
      · rw [et, if_neg (by omega), if_neg (by omega)]
  · refine bn_f (fun z => c3 (nI_inj (b := 3) (by omega) (by decide) z)) ?_
    by_cases c0 : ty = 0
    · subst c0
      refine bn_t rfl (r_byte ho S (fun e y y1 y2 y3 => ?_) (fun y y1 y2 Sy v1 => ?_))
      · have er : tld T 0 st p = .error e := by unfold tld; rw [if_pos rfl, y1]
        exact ⟨fun _ => k_ckf y3.ne (pe e y er y2 y3 _), fun _ => k_ckf y3.ne (pe e y er y2 y3 _)⟩
      · have hT := S.t p
        have et : tld T 0 st p = (if 1 < T p then .error 7 else .ok ((lN (T p), []), p + 1)) := by unfold tld; rw [if_pos rfl, y1]
        by_cases c1 : 1 < T p
        · refine br_t (by (first | omega | (simp (disch := omega) only [Int32.le_iff_toInt_le, Int32.lt_iff_toInt_lt, z_eq, z_in, nI_toInt, z_cl, z_m1, z_sg, z_255, Int32.reduceToInt] <;> omega) | (simp only [Int32.le_iff_toInt_le, Int32.lt_iff_toInt_lt, z_eq, z_in, z_add, z_sub, z_mul, z_neg, z_nI, z_cl, z_sg, z_255, z_lit, Int32.reduceToInt] <;> omega))) (r_ck0 7 Sy (by decide) (by decide) (fun z z1 z2 => pe 7 z (by rw [et, if_pos c1]) (Fg.trans y2 z1) z2 _))
        · refine br_f (by (first | omega | (simp (disch := omega) only [Int32.le_iff_toInt_le, Int32.lt_iff_toInt_lt, z_eq, z_in, nI_toInt, z_cl, z_m1, z_sg, z_255, Int32.reduceToInt] <;> omega) | (simp only [Int32.le_iff_toInt_le, Int32.lt_iff_toInt_lt, z_eq, z_in, z_add, z_sub, z_mul, z_neg, z_nI, z_cl, z_sg, z_255, z_lit, Int32.reduceToInt] <;> omega))) (k_ck1 (pk _ _ y _ (by rw [et, if_neg c1]) y2 Sy ⟨fun _ => show (nI (T p)).toInt64 = lN (T p) from nI_l (by omega), fun z => absurd z (by decide)⟩))
    · refine bn_f (fun z => c0 (nI_inj (b := 0) (by omega) (by decide) z)) (r_vrd ho S (fun e y y1 y2 y3 => ?_) (fun m q y y1 y2 Sy v1 v2 => ?_))
      · have er : tld T ty st p = .error e := by unfold tld; rw [if_neg c0, if_neg c3, y1]
        exact k_uz (v := 0) (by decide) ⟨fun _ => k_ckf y3.ne (pe e y er y2 y3 _), fun _ => ⟨fun _ => k_ckf y3.ne (pe e y er y2 y3 _), fun _ => k_ckf y3.ne (pe e y er y2 y3 _)⟩⟩
      · have et : tld T ty st p = (if ty = 1 ∧ ¬ inI (uz m) then .error 7 else .ok ((uz m, []), q)) := by unfold tld; rw [if_neg c0, if_neg c3, y1]
        have good : ¬ (ty = 1 ∧ ¬ inI (uz m)) → post (uz m) y := fun c => pk _ _ y _ (by rw [et, if_neg c]) y2 Sy ⟨fun _ => rfl, fun z => absurd z c3⟩
        refine k_uz v1 ?_
        by_cases c2 : ty = 2
        · refine br_t (by rw [c2]; rfl) (k_ck1 (good (fun z => by omega)))
        · refine br_f (fun z => c2 (nI_inj (b := 2) (by omega) (by decide) z)) ?_
          rw [lg_cmp_eq]
          by_cases ci : inI (uz m)
          · exact bn_t ci (k_ck1 (good (fun z => z.2 ci)))
          · exact bn_f ci (r_ck0 7 Sy (by decide) (by decide) (fun z z1 z2 => pe 7 z (by rw [et, if_pos ⟨by omega, ci⟩]) (Fg.trans y2 z1) z2 _))
end
