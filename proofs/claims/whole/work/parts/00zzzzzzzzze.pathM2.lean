/-! paths of a query, model: the loop, columns -/
section
variable {b : Prop} {T : Nat → Int32} {n s : Nat} {F : List SFd} {x y : St} {Q : Qy} {r : QR}
theorem s_qPthL (hB : BsM x T n F s) {post : Int32 → St → Prop} : ∀ d k g bl y, n + 1 ≤ k + d → GdM b n s x y k Q →
    ((qPth T n F d k g bl).1 = -1 → ∀ z, GdM b n s x z (qPth T n F d k g bl).2.1 Q → post (qPth T n F d k g bl).2.2 z) →
    (¬ (qPth T n F d k g bl).1 = -1 → ∀ z, FfM b s x z (qPth T n F d k g bl).1 → post (-1) z) → wl_Mod_path_8 post d g (if bl = true then 1 else 0) y := by
  intro d
  induction d with
  | zero =>
    intro k g bl y hd hg
    have := hg.2.2.2.1
    omega
  | succ d ih =>
    intro k g bl y hd hg
    obtain ⟨t1, t2, t3, t4, t5, t6, t7⟩ := hB.fq hg.1
    have hk := hg.2.2.2.1
    have g16 := hg.2.2.1
    have hwl := @wln_le T n k hk
    unfold qPth
    intro p1 p0
    show j_Mod_path_8 post (wl_Mod_path_8 post d) g _ y
    have bad : wln T n k = 0 ∨ ownB T n k = true → ∀ l, j_Mod_path_43 post g (if bl = true then 1 else 0) l y := by
      intro c l
      rw [if_pos c] at p0
      unfold j_Mod_path_43
      rw [g16]
      refine s_qFail hB (by omega) (RqM.good hg) (fun z hz => p0 (nI_nm1 (by omega)) z ?_)
      exact hz.ft (nI_nm1 (by omega))
    unfold j_Mod_path_8
    refine bn_t hg.2.1 ?_
    rw [g16]
    refine s_wordAt t1 (by omega) ?_
    by_cases c : wln T n k = 0
    · exact br_t (by rw [c]; rfl) (bad (Or.inl c) _)
    · refine br_f (fun z => c ((nI_eq (b := 0) (by omega) (by decide)).mp z)) ?_
      rw [g16]
      refine s_wordOf t1 hk (s_isKept ?_)
      by_cases c2 : ownB T n k = true
      · rw [if_pos c2]
        exact br_f (by decide) (bad (Or.inr c2) _)
      · rw [if_neg c2]
        have cc : ¬ (wln T n k = 0 ∨ ownB T n k = true) := fun z => z.elim c c2
        rw [if_neg cc] at p1 p0
        refine br_t rfl ?_
        have m91 : ∀ f fl l2, f = (if bl = true then -1 else fdF F g (rowL T k (wln T n k))) → fl = (bl || decide (fdF F g (rowL T k (wln T n k)) = -1)) → j_Mod_path_91 post (wl_Mod_path_8 post d) f l2 (nI (wln T n k)) (if fl = true then 1 else 0) y := by
          intro f fl l2 ef efl
          rw [← ef] at p1 p0
          rw [← efl] at p1 p0
          unfold j_Mod_path_91
          have g1 : GdM b n s x (setI y 0 16 (nI (k + wln T n k))) (k + wln T n k) Q := hg.k (by omega) hwl
          refine nm_r (e' := setI y 0 16 (nI (k + wln T n k))) (by rw [g16, nI_add]) (s_look (hB.fq g1.1).1 (k := k + wln T n k) rfl (by omega) ?_)
          by_cases c3 : k + wln T n k < n ∧ T (k + wln T n k) = 46
          · rw [if_pos c3] at p1 p0
            rw [if_pos c3.1]
            refine br_t c3.2 (nm_r (e' := setI (setI y 0 16 (nI (k + wln T n k))) 0 16 (nI (k + wln T n k + 1))) (by rw [gI_at, nI_1]) ?_)
            exact ih _ _ _ _ (by omega) (g1.k (by omega) (by omega)) p1 p0
          · rw [if_neg c3] at p1 p0
            refine br_f (fun z => c3 ?_) (p1 rfl _ g1)
            by_cases c4 : k + wln T n k < n
            · rw [if_pos c4] at z; exact ⟨c4, z⟩
            · rw [if_neg c4] at z; exact absurd z (by decide)
        have m76 : ∀ f, f = (if bl = true then -1 else fdF F g (rowL T k (wln T n k))) → j_Mod_path_76 post (wl_Mod_path_8 post d) g (if bl = true then 1 else 0) (nI (wln T n k)) f y := by
          intro f ef
          unfold j_Mod_path_76 j_Mod_path_86
          cases bl
          · refine bn_t rfl ?_
            by_cases c3 : f = -1
            · refine bn_t c3 (m91 f true _ ef ?_)
              rw [ef] at c3
              have c3 : fdF F g (rowL T k (wln T n k)) = -1 := c3
              rw [c3]; rfl
            · refine bn_f c3 (m91 f false _ ef ?_)
              rw [ef] at c3
              have c3 : ¬ fdF F g (rowL T k (wln T n k)) = -1 := c3
              rw [decide_eq_false c3]; rfl
          · exact bn_f (by decide) (m91 f true _ ef rfl)
        cases bl
        · refine br_t rfl ?_
          rw [g16]
          exact s_findQ t1 t3 t4 t5 hwl (m76 _ rfl)
        · exact br_f (by decide) (m76 _ rfl)
theorem s_qPath (hB : BsM x T n F s) {post : Int32 → St → Prop} (h : RqM b n s x r y)
    (p1 : r.1 = -1 → (qPa T n F r.2.1).1 = -1 → ∀ z, GdM b n s x z (qPa T n F r.2.1).2.1 r.2.2 → post (qPa T n F r.2.1).2.2 z)
    (p0 : ¬ (if r.1 = -1 then (qPa T n F r.2.1).1 else r.1) = -1 → ∀ z, FfM b s x z (if r.1 = -1 then (qPa T n F r.2.1).1 else r.1) → post (-1) z) : wp_Mod_path post y := by
  unfold wp_Mod_path
  refine s_qBlanks hB h (fun z hz => ?_)
  by_cases c : r.1 = -1
  · rw [if_pos c] at p0
    exact ⟨n + 1, s_qPthL hB (n + 1) (skip T n r.2.1) (-1) false z (by omega) (hz.gd c) (p1 c) p0⟩
  · rw [if_neg c] at p0
    refine ⟨1, ?_⟩
    show j_Mod_path_8 post _ _ _ z
    unfold j_Mod_path_8
    exact bn_f (by rw [hz.e]; exact c) (p0 c z (hz.ft c))
theorem s_qCol (hB : BsM x T n F s) {post : Int32 → St → Prop} (h : RqM b n s x r y)
    (p1 : r.1 = -1 → (qCol T n F r.2.1).1 = -1 → ∀ z, GdM b n s x z (qCol T n F r.2.1).2.1 r.2.2 → post (nI (qCol T n F r.2.1).2.2) z)
    (p0 : ¬ (if r.1 = -1 then (qCol T n F r.2.1).1 else r.1) = -1 → ∀ v z, FfM b s x z (if r.1 = -1 then (qCol T n F r.2.1).1 else r.1) → post v z) : wp_Mod_flatColumn post y := by
  have hF := hB.2.2.2.1.1
  have t2 := hB.2.1
  unfold wp_Mod_flatColumn
  refine s_qBlanks hB h (fun z hz => nm_e ?_)
  by_cases c : r.1 = -1
  · rw [if_pos c] at p0
    have gz := hz.gd c
    have gz3 : fI z 0 16 = nI (skip T n r.2.1) := gz.2.2.1
    have gz4 : skip T n r.2.1 ≤ n := gz.2.2.2.1
    rw [gz3]
    have ep : qPa T n F (skip T n r.2.1) = qPa T n F r.2.1 := by unfold qPa; rw [skip_skip]
    refine s_qPath hB hz (fun _ a w hw => ?_) (fun a w hw => ?_)
    · have a : (qPa T n F (skip T n r.2.1)).1 = -1 := a
      have hw : GdM b n s x w (qPa T n F (skip T n r.2.1)).2.1 r.2.2 := hw
      show _ ∧ _
      rw [ep] at a hw
      show (¬ fI w 0 17 = -1 → j_Mod_flatColumn_54 post (nI (skip T n r.2.1)) (qPa T n F (skip T n r.2.1)).2.2 w) ∧ _
      rw [ep]
      refine bn_t hw.2.1 ?_
      have bad : ((qPa T n F r.2.1).2.2 = -1 ∨ fTy F (qPa T n F r.2.1).2.2.toNatClampNeg = 4 ∨ ¬ rF F (qPa T n F r.2.1).2.2.toNatClampNeg = 0) → j_Mod_flatColumn_49 post (nI (skip T n r.2.1)) (qPa T n F r.2.1).2.2 w := by
        intro d
        have e : qCol T n F r.2.1 = (nI (skip T n r.2.1), (qPa T n F r.2.1).2.1, 0) := by unfold qCol; rw [if_neg (fun q => q a), if_pos d]
        rw [e] at p0
        unfold j_Mod_flatColumn_49 j_Mod_flatColumn_54
        refine s_qFail hB (by omega) (RqM.good hw) (fun v hv => p0 (nI_nm1 (by omega)) _ v ?_)
        exact hv.ft (nI_nm1 (by omega))
      by_cases d1 : (qPa T n F r.2.1).2.2 = -1
      · exact br_t d1 (bad (Or.inl d1))
      · refine br_f d1 ?_
        obtain ⟨t1, -, t3, t4, t5, t6, t7⟩ := hB.fq hw.1
        rcases (qPth_f (T := T) (n := n) (F := F) (by omega) (n + 1) (skip T n r.2.1) (-1) false) with d | ⟨f, hf, ef⟩
        · exact absurd d d1
        · have ef : (qPa T n F r.2.1).2.2 = nI f := ef
          have cf : (nI f).toNatClampNeg = f := nI_clamp (by omega)
          rw [ef, cf] at bad
          have e4 : rA w 4 (nI (128 + f)) = fTy F f := by
            rw [rA_nI (by omega)]
            exact (t5.2.2.1 f hf).2.1
          rw [ef, k_plM, show (128 : Int32) * 1 + nI f = nI (128 + f) from by rw [show (128 : Int32) * 1 = nI 128 from rfl, nI_add], e4, show fN w 4 = 384 from t3 4]
          refine ⟨vp_in_nI (by omega) (by decide), ?_⟩
          by_cases d2 : fTy F f = 4
          · exact br_t d2 (bad (Or.inr (Or.inl d2)))
          · refine br_f d2 (s_isFlat t3 t4 t5 hf ?_)
            by_cases d3 : rF F f = 0
            · rw [if_pos d3]
              refine bn_f (by decide) ?_
              have e : qCol T n F r.2.1 = (-1, (qPa T n F r.2.1).2.1, f) := by
                unfold qCol
                rw [if_neg (fun q => q a), if_neg (by rw [ef, cf]; exact fun q => q.elim (nI_nm1 (by omega)) (fun q => q.elim d2 (fun q => q d3))), ef, cf]
              rw [e] at p1
              unfold j_Mod_flatColumn_54
              exact p1 c rfl w hw
            · rw [if_neg d3]
              exact bn_t rfl (bad (Or.inr (Or.inr d3)))
    · have a : ¬ (if r.1 = -1 then (qPa T n F (skip T n r.2.1)).1 else r.1) = -1 := a
      have hw : FfM b s x w (if r.1 = -1 then (qPa T n F (skip T n r.2.1)).1 else r.1) := hw
      rw [if_pos c, ep] at a hw
      refine bn_f (by rw [hw.2.1]; exact a) ?_
      have e : qCol T n F r.2.1 = ((qPa T n F r.2.1).1, (qPa T n F r.2.1).2.1, 0) := by unfold qCol; rw [if_pos a]
      rw [e] at p0
      exact p0 a _ w hw
  · rw [if_neg c] at p0
    refine s_qPath hB hz (fun a => absurd a c) (fun a w hw => ?_)
    have hw : FfM b s x w (if r.1 = -1 then (qPa T n F (skip T n r.2.1)).1 else r.1) := hw
    rw [if_neg c] at hw
    exact bn_f (by rw [hw.2.1]; exact c) (p0 c _ w hw)
end
