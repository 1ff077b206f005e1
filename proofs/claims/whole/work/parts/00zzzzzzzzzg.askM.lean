/-! tests of a query, model -/
theorem pl1 {f : Nat} : (128 : Int32) * 1 + nI f = nI (128 + f) := by rw [show (128 : Int32) * 1 = nI 128 from rfl, nI_add]
section
variable {b : Prop} {T : Nat → Int32} {n s : Nat} {F : List SFd} {x y : St} {Q : Qy} {r : QR}
theorem qCol_f (hw : WfS F) (hn : n < 2 ^ 31) {k : Nat} (hk : k ≤ n) (h : (qCol T n F k).1 = -1) : (qCol T n F k).2.2 < F.length ∧ fTy F (qCol T n F k).2.2 ≠ 4 ∧ rF F (qCol T n F k).2.2 = 0 ∧ k < (qCol T n F k).2.1 ∧ (qCol T n F k).2.1 ≤ n := by
  have hF := hw.1
  have sl := @skip_le T n k hk
  have sg := skip_ge T n k
  unfold qCol at h ⊢
  by_cases c : (qPa T n F k).1 = -1
  · rw [if_neg (fun q => q c)] at h ⊢
    by_cases d : (qPa T n F k).2.2 = -1 ∨ fTy F (qPa T n F k).2.2.toNatClampNeg = 4 ∨ ¬ rF F (qPa T n F k).2.2.toNatClampNeg = 0
    · rw [if_pos d] at h
      exact absurd h (nI_nm1 (by omega))
    · rw [if_neg d] at h ⊢
      have := qPth_k (T := T) (F := F) hn (n + 1) (skip T n k) (-1) false sl c
      rcases (qPth_f (T := T) (n := n) (F := F) (by omega) (n + 1) (skip T n k) (-1) false) with e | ⟨f, hf, ef⟩
      · exact absurd (Or.inl e) d
      · have ef : (qPa T n F k).2.2 = nI f := ef
        have cf : (nI f).toNatClampNeg = f := nI_clamp (by omega)
        show (qPa T n F k).2.2.toNatClampNeg < F.length ∧ fTy F (qPa T n F k).2.2.toNatClampNeg ≠ 4 ∧ rF F (qPa T n F k).2.2.toNatClampNeg = 0 ∧ k < (qPa T n F k).2.1 ∧ (qPa T n F k).2.1 ≤ n
        refine ⟨by rw [ef, cf]; exact hf, fun q => d (Or.inr (Or.inl q)), Decidable.byContradiction (fun q => d (Or.inr (Or.inr q))), ?_, this.2⟩
        have := this.1
        show k < (qPth T n F (n + 1) (skip T n k) (-1) false).2.1
        omega
  · rw [if_pos c] at h
    exact absurd h c
theorem qCol_skip {k : Nat} : qCol T n F (skip T n k) = qCol T n F k := by unfold qCol qPa; rw [skip_skip]
theorem s_qOp (hB : BsM x T n F s) {post : Int32 → St → Prop} {k : Nat} (h : GdM b n s x y k Q)
    (p1 : (qOp T n k).1 = -1 → ∀ z, GdM b n s x z (qOp T n k).2.1 Q → post (nI (qOp T n k).2.2) z)
    (p0 : ¬ (qOp T n k).1 = -1 → ∀ v z, FfM b s x z (qOp T n k).1 → post v z) : wp_Mod_operator post y := by
  have t2 := hB.2.1
  unfold wp_Mod_operator
  refine s_qBlanks hB (RqM.good h) (fun z hz => ?_)
  have gz : GdM b n s x z (skip T n k) Q := hz.gd rfl
  have g16 := gz.2.2.1
  have gk := gz.2.2.2.1
  refine s_look (hB.fq gz.1).1 g16 (by omega) ?_
  rw [g16]
  unfold qOp at p1 p0
  generalize skip T n k = sk at *
  clear h hz
  by_cases c : sk < n
  · rw [if_pos c]
    rw [if_neg (fun q => q c)] at p1 p0
    have g1 : GdM b n s x (setI z 0 16 (nI (sk + 1))) (sk + 1) Q := gz.k (by omega) c
    have m93 : ∀ l1 l2 (d : Nat), d ≤ 1 → sk + 1 + d ≤ n → (if l1 = 61 then post 0 (setI z 0 16 (nI (sk + 1 + d))) else if l1 = 60 then (if l2 = 62 then post 1 (setI z 0 16 (nI (sk + 1 + d))) else if d = 0 then post 2 (setI z 0 16 (nI (sk + 1 + d))) else post 3 (setI z 0 16 (nI (sk + 1 + d)))) else if d = 0 then post 4 (setI z 0 16 (nI (sk + 1 + d))) else post 5 (setI z 0 16 (nI (sk + 1 + d)))) → j_Mod_operator_93 post l1 l2 (nI d) (setI z 0 16 (nI (sk + 1))) := by
      intro l1 l2 d hd hd2 q
      have m108 : ∀ l3 : Int32, (l3 = 0 ↔ d = 0) → ∀ v, v = nI (sk + 1 + d) → ∀ s0 s1, s1 + s0 = v → j_Mod_operator_108 post l1 l2 l3 s0 s1 (setI z 0 16 (nI (sk + 1))) := by
        intro l3 e3 v ev s0 s1 es
        unfold j_Mod_operator_108
        rw [es, ev]
        refine nm_r (e' := setI z 0 16 (nI (sk + 1 + d))) (setI_setI ..) ?_
        by_cases c1 : l1 = 61
        · rw [if_pos c1] at q
          exact bn_t c1 q
        · rw [if_neg c1] at q
          refine bn_f c1 ?_
          by_cases c2 : l1 = 60
          · rw [if_pos c2] at q
            refine bn_t c2 ?_
            by_cases c3 : l2 = 62
            · rw [if_pos c3] at q
              exact bn_t c3 q
            · rw [if_neg c3] at q
              refine bn_f c3 ?_
              by_cases c4 : d = 0
              · rw [if_pos c4] at q
                exact br_t (e3.mpr c4) q
              · rw [if_neg c4] at q
                exact br_f (fun w => c4 (e3.mp w)) q
          · rw [if_neg c2] at q
            refine bn_f c2 ?_
            by_cases c4 : d = 0
            · rw [if_pos c4] at q
              exact br_t (e3.mpr c4) q
            · rw [if_neg c4] at q
              exact br_f (fun w => c4 (e3.mp w)) q
      unfold j_Mod_operator_93
      have e16 : fI (setI z 0 16 (nI (sk + 1))) 0 16 = nI (sk + 1) := gI_at
      rw [e16]
      by_cases c4 : d = 0
      · subst c4
        exact br_t rfl (m108 _ ⟨fun _ => rfl, fun _ => rfl⟩ _ rfl _ _ (by show nI (sk + 1) + nI 0 = _; rw [nI_add]))
      · have e1 : d = 1 := by omega
        subst e1
        exact br_f (by decide) (m108 _ ⟨fun w => absurd w (by decide), fun w => absurd w (by decide)⟩ _ rfl _ _ (by show nI (sk + 1) + nI 1 = _; rw [nI_add]))
    have m35 : ∀ l1, T sk = l1 → (∀ l2, (l1 = 61 → l2 = -1) → (¬ l1 = 61 → l2 = if sk + 1 < n then T (sk + 1) else -1) → j_Mod_operator_69 post l1 l2 (setI z 0 16 (nI (sk + 1)))) → j_Mod_operator_35 post l1 z := by
      intro l1 e q
      unfold j_Mod_operator_35
      refine br_t gz.2.1 (nm_r (e' := setI z 0 16 (nI (sk + 1))) (by rw [g16, nI_1]) ?_)
      by_cases c1 : l1 = 61
      · exact bn_t c1 (q _ (fun _ => rfl) (fun w => absurd c1 w))
      · exact bn_f c1 (s_look (hB.fq g1.1).1 (k := sk + 1) rfl (by omega) (q _ (fun w => absurd w c1) (fun _ => rfl)))
    by_cases c1 : T sk = 61
    · rw [if_pos c1] at p1
      refine br_t c1 (m35 _ rfl (fun l2 e2 _ => ?_))
      unfold j_Mod_operator_69 j_Mod_operator_92
      rw [e2 c1]
      refine br_f (by decide) (bn_f (by rw [c1]; decide) (m93 _ _ 0 (by decide) (by omega) ?_))
      rw [if_pos c1]
      exact p1 rfl _ g1
    · rw [if_neg c1] at p1 p0
      refine br_f c1 ?_
      by_cases c2 : T sk = 60
      · rw [if_pos c2] at p1
        refine br_t c2 (m35 _ rfl (fun l2 _ e2 => ?_))
        have e2 := e2 c1
        unfold j_Mod_operator_69 j_Mod_operator_92 j_Mod_operator_88
        by_cases d1 : sk + 1 < n ∧ T (sk + 1) = 62
        · rw [if_pos d1] at p1
          rw [if_pos d1.1, d1.2] at e2
          rw [e2]
          refine br_f (by decide) (bn_t c2 (bn_t rfl (m93 _ _ 1 (by decide) (by omega) ?_)))
          rw [if_neg c1, if_pos c2, if_pos rfl]
          exact p1 rfl _ (gz.k (by omega) (by omega))
        · rw [if_neg d1] at p1
          have n62 : ¬ l2 = 62 := fun w => d1 (by
            by_cases d2 : sk + 1 < n
            · rw [if_pos d2] at e2; exact ⟨d2, e2.symm.trans w⟩
            · rw [if_neg d2] at e2; rw [e2] at w; exact absurd w (by decide))
          by_cases d3 : sk + 1 < n ∧ T (sk + 1) = 61
          · rw [if_pos d3] at p1
            rw [if_pos d3.1, d3.2] at e2
            refine br_t e2 (m93 _ _ 1 (by decide) (by omega) ?_)
            rw [if_neg c1, if_pos c2, if_neg n62, if_neg (by decide)]
            exact p1 rfl _ (gz.k (by omega) (by omega))
          · rw [if_neg d3] at p1
            have n61 : ¬ l2 = 61 := fun w => d3 (by
              by_cases d2 : sk + 1 < n
              · rw [if_pos d2] at e2; exact ⟨d2, e2.symm.trans w⟩
              · rw [if_neg d2] at e2; rw [e2] at w; exact absurd w (by decide))
            refine br_f n61 (bn_t c2 (bn_f n62 (m93 _ _ 0 (by decide) (by omega) ?_)))
            rw [if_neg c1, if_pos c2, if_neg n62, if_pos rfl]
            exact p1 rfl _ g1
      · rw [if_neg c2] at p1 p0
        refine br_f c2 ?_
        by_cases c3 : T sk = 62
        · rw [if_pos c3] at p1
          refine br_t c3 (m35 _ rfl (fun l2 _ e2 => ?_))
          have e2 := e2 c1
          unfold j_Mod_operator_69 j_Mod_operator_92 j_Mod_operator_88
          by_cases d3 : sk + 1 < n ∧ T (sk + 1) = 61
          · rw [if_pos d3] at p1
            rw [if_pos d3.1, d3.2] at e2
            refine br_t e2 (m93 _ _ 1 (by decide) (by omega) ?_)
            rw [if_neg c1, if_neg c2, if_neg (by decide)]
            exact p1 rfl _ (gz.k (by omega) (by omega))
          · rw [if_neg d3] at p1
            have n61 : ¬ l2 = 61 := fun w => d3 (by
              by_cases d2 : sk + 1 < n
              · rw [if_pos d2] at e2; exact ⟨d2, e2.symm.trans w⟩
              · rw [if_neg d2] at e2; rw [e2] at w; exact absurd w (by decide))
            refine br_f n61 (bn_f c2 (m93 _ _ 0 (by decide) (by omega) ?_))
            rw [if_neg c1, if_neg c2, if_pos rfl]
            exact p1 rfl _ g1
        · rw [if_neg c3] at p0
          refine br_f c3 (s_qFail hB (by omega) (RqM.good gz) (fun w hw => ?_))
          have hw : RqM b n s x (nI sk, sk, Q) w := hw
          unfold j_Mod_operator_35
          refine br_f (by rw [hw.e]; exact nI_nm1 (by omega)) (p0 (nI_nm1 (by omega)) _ w (hw.ft (nI_nm1 (by omega))))
  · rw [if_neg c]
    rw [if_pos c] at p0
    refine br_f (by decide) (br_f (by decide) (br_f (by decide) (s_qFail hB (by omega) (RqM.good gz) (fun w hw => ?_))))
    have hw : RqM b n s x (nI sk, sk, Q) w := hw
    unfold j_Mod_operator_35
    refine br_f (by rw [hw.e]; exact nI_nm1 (by omega)) (p0 (nI_nm1 (by omega)) _ w (hw.ft (nI_nm1 (by omega))))
end
