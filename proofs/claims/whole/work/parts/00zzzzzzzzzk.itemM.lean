/-! items of a query, model -/
section
variable {T : Nat → Int32} {n s : Nat} {F : List SFd} {x y : St} {Q : Qy} {r : QR}
theorem s_qCnd (hB : BsM x T n F s) {post : St → Prop} {k : Nat} (h : GdM True n s x y k Q) (p : ∀ z, RqM True n s x (qCnd T n (qTst T n F 32) (n + 1) k none none Q) z → post z) : wp_Mod_readCondition post y := by
  have hk := h.2.2.2.1
  unfold wp_Mod_readCondition
  refine nm_e (nm_e ⟨n + 2, ?_⟩)
  have f : FqM True s y (setI (setI y 0 139 0) 0 140 0) := (FqM.i (Or.inr (Or.inr (Or.inr ⟨trivial, Or.inl rfl⟩)))).trans (FqM.i (Or.inr (Or.inr (Or.inr ⟨trivial, Or.inr rfl⟩))))
  refine cnd_ok (post := post) hB (tst_ok hB 32) (n + 1) k none none Q [] _ (n + 2) (n + 2) _ (by omega) (fun p P0 e => nomatch e) (fun p e => nomatch e) (fun p e => nomatch e) (by decide) rfl (by omega) (by omega) ⟨⟨h.1.trans f, h.2⟩, rfl, rfl, trivial⟩ (fun z q => ⟨_, q⟩) (fun c z N' _ hz => ?_) (fun c z hz => ?_)
  · unfold cE
    refine bn_t hz.2.1 (p z ?_)
    unfold RqM
    rw [if_pos c]
    exact hz.1
  · exact p z (by unfold RqM; rw [if_neg c]; exact hz)
theorem s_whl {P : Int32 → St → Prop} {t : Int32} {y : St} (hP : P (if whl t then 1 else 0) y) : wp_Mod_isWhole P t y := by
  unfold wp_Mod_isWhole j_Mod_isWhole_10
  by_cases e1 : t = 1
  · rw [if_pos (Or.inl e1)] at hP; exact br_t e1 hP
  · by_cases e2 : t = 2
    · rw [if_pos (Or.inr e2)] at hP; exact br_f e1 (bn_t e2 hP)
    · rw [if_neg (fun z => z.elim e1 e2)] at hP; exact br_f e1 (bn_f e2 hP)
/-- an item is kept -/
theorem s_q218 (hB : BsM x T n F s) {post : St → Prop} {q : Nat} {w f l2 : Int32} (h : RqM True n s x r y) (hl : r.1 = -1 → l2 = nI r.2.2.1.length ∧ r.2.2.1.length ≠ 16) (p : ∀ z, RqM True n s x (qIt q w f r) z → post z) : j_Mod_readItem_218 post (nI q) l2 w f y := by
  obtain ⟨t1, t2, t3, t4, t5, t6, t7⟩ := hB.fq h.fq
  unfold j_Mod_readItem_218
  by_cases d : r.1 = -1
  · obtain ⟨e2, hne⟩ := hl d
    obtain ⟨a1, a2, a3, a4, ⟨b1, b2, b3, b4⟩, a6, a7, a8⟩ := h.gd d
    have h16 := b1.2.1
    rw [e2]
    refine br_t a2 ?_
    have hk : 16 * s + r.2.2.1.length < 48 := by omega
    have ii : vp_in (nI (16 * s + r.2.2.1.length)) 48 := vp_in_nI hk (by decide)
    have i0 : vp_in (nI (4 * s)) 12 := vp_in_nI (by omega) (by decide)
    rw [t6, q16, show fN y 80 = 48 from t3 80]
    refine ⟨ii, nm_e ?_⟩
    show vp_in ((16 * fI y 0 118) + nI r.2.2.1.length) (fN y 81) ∧ _
    rw [t6, q16, show fN y 81 = 48 from t3 81]
    refine ⟨ii, nm_r (e' := setA (setA y 80 (nI (16 * s + r.2.2.1.length)) w) 81 (nI (16 * s + r.2.2.1.length)) f) (by show setA _ 81 ((16 * fI y 0 118) + nI r.2.2.1.length) f = _; rw [t6, q16]) ?_⟩
    show vp_in ((16 * fI y 0 118) + nI r.2.2.1.length) (fN y 82) ∧ _
    rw [t6, q16, show fN y 82 = 48 from t3 82]
    refine ⟨ii, nm_r (e' := setA (setA (setA y 80 (nI (16 * s + r.2.2.1.length)) w) 81 (nI (16 * s + r.2.2.1.length)) f) 82 (nI (16 * s + r.2.2.1.length)) (nI q)) (by show setA _ 82 ((16 * fI y 0 118) + nI r.2.2.1.length) (nI q) = _; rw [t6, q16]) ?_⟩
    show vp_in (4 * fI y 0 118) (fN y 79) ∧ vp_in (4 * fI y 0 118) (fN y 79) ∧ _
    rw [t6, q4, show fN y 79 = 12 from t3 79]
    refine ⟨i0, i0, nm_r (e' := setA (setA (setA (setA y 80 (nI (16 * s + r.2.2.1.length)) w) 81 (nI (16 * s + r.2.2.1.length)) f) 82 (nI (16 * s + r.2.2.1.length)) (nI q)) 79 (nI (4 * s)) (nI (r.2.2.1.length + 1))) (by show setA _ 79 (4 * fI y 0 118) (rA y 79 (4 * fI y 0 118) + 1) = _; rw [t6, q4, rA_nI (by omega), b1.1, nI_1]) (p _ ?_)⟩
    unfold qIt
    rw [if_pos d]
    have cl : (nI (16 * s + r.2.2.1.length)).toNatClampNeg = 16 * s + r.2.2.1.length := nI_clamp (by omega)
    have cl2 : (nI (4 * s)).toNatClampNeg = 4 * s := nI_clamp (by omega)
    refine RqM.good ⟨?_, a2, a3, a4, ⟨?_, ?_, ?_, ?_⟩, a6, a7, a8⟩
    · have hA : ∀ a, 80 ≤ a → a ≤ 82 → qA True s a (16 * s + r.2.2.1.length) := fun a z w => Or.inr (Or.inr ⟨by omega, by omega, by
        have : wq a = 16 := by unfold wq; rw [if_neg (by omega), if_pos (by omega)]
        rw [this]; omega⟩)
      exact (((a1.trans (FqM.a (by omega) (hA 80 (by decide) (by decide)))).trans (FqM.a (by omega) (hA 81 (by decide) (by decide)))).trans (FqM.a (by omega) (hA 82 (by decide) (by decide)))).trans (FqM.a (by omega) (Or.inr (Or.inr ⟨by decide, by decide, by show 4 * s ≤ _; omega, by show _ < 4 * s + 4; omega⟩)))
    · refine b1.add (l := (w, f, q)) (c' := upd (fA y 79) (nI (4 * s)).toNatClampNeg (nI (r.2.2.1.length + 1))) hne (by rw [cl2, upd_at]) ?_ ?_ ?_
      · show upd (fA y 80) (nI (16 * s + r.2.2.1.length)).toNatClampNeg w = _; rw [cl]
      · show upd (fA y 81) (nI (16 * s + r.2.2.1.length)).toNatClampNeg f = _; rw [cl]
      · show upd (fA y 82) (nI (16 * s + r.2.2.1.length)).toNatClampNeg (nI q) = _; rw [cl]
    · exact b2.cg (c' := upd (fA y 79) (nI (4 * s)).toNatClampNeg _) (by rw [cl2, upd_ne (by omega)])
    · exact b3.cg (c' := upd (fA y 79) (nI (4 * s)).toNatClampNeg _) (by rw [cl2, upd_ne (by omega)])
    · exact b4.cg (c' := upd (fA y 79) (nI (4 * s)).toNatClampNeg _) (by rw [cl2, upd_ne (by omega)])
  · refine br_f (by rw [h.e]; exact d) (p y ?_)
    unfold qIt
    rw [if_neg d]
    exact h
/-- in brackets -/
theorem s_q153 (hB : BsM x T n F s) {post : St → Prop} {q k : Nat} {w l3 : Int32} (h : GdM True n s x y k Q) (hl : Q.1.length ≠ 16) (p : ∀ z, RqM True n s x (qAgg T n F q w k Q) z → post z) : j_Mod_readItem_153 post (nI q) (nI Q.1.length) l3 (-1) w y := by
  have t2 := hB.2.1
  have hk := h.2.2.2.1
  unfold j_Mod_readItem_153
  unfold qAgg at p
  refine s_qWant hB (by decide) (RqM.good h) (fun z hz => s_qBlanks hB hz (fun u hu => nm_e ?_))
  have m212 : ∀ (r2 : QR) (v : St) (f l5 : Int32), ¬ r2.1 = -1 → RqM True n s x r2 v → (∀ z, RqM True n s x r2 z → post z) → j_Mod_readItem_212 post (nI q) (nI Q.1.length) w f l5 v := by
    intro r2 v f l5 c hv pp
    unfold j_Mod_readItem_212
    refine s_qWant hB (by decide) hv (fun v2 hv2 => ?_)
    rw [qSgn_b c] at hv2
    refine s_q218 hB hv2 (fun e => absurd e c) (fun v3 hv3 => pp v3 ?_)
    unfold qIt at hv3
    rw [if_neg c] at hv3
    exact hv3
  by_cases c : (qSgn T n 40 (-1, k, Q)).1 = -1
  · rw [qBd_g c] at p
    obtain ⟨-, e1, k1⟩ := qSgn_q c (by omega) (show k ≤ n from hk)
    rw [e1] at hu p
    have k1 : skip T n k < n := k1
    generalize hk2 : skip T n k + 1 = k2 at *
    have hu : RqM True n s x (-1, skip T n k2, Q) u := hu
    have p : ∀ z, RqM True n s x (if ¬ (qCol T n F k2).1 = -1 then ((qCol T n F k2).1, (qCol T n F k2).2.1, Q) else if w = 3 ∧ ¬ whl (fTy F (qCol T n F k2).2.2) then (nI (skip T n k2), (qCol T n F k2).2.1, Q) else qIt q w (nI (qCol T n F k2).2.2) (qSgn T n 41 (-1, (qCol T n F k2).2.1, Q))) z → post z := p
    have hk2n : k2 ≤ n := by omega
    have gu : GdM True n s x u (skip T n k2) Q := hu.gd rfl
    have u4 := gu.2.2.2.1
    rw [gu.2.2.1]
    refine s_qCol hB hu (fun _ c4 v hv => ?_) (fun c4 vv v hv => ?_)
    · have c4 : (qCol T n F (skip T n k2)).1 = -1 := c4
      have hv : GdM True n s x v (qCol T n F (skip T n k2)).2.1 Q := hv
      show _ ∧ _
      rw [qCol_skip] at c4 hv
      show (¬ fI v 0 17 = -1 → j_Mod_readItem_212 post (nI q) (nI Q.1.length) w (nI (qCol T n F (skip T n k2)).2.2) (nI (skip T n k2)) v) ∧ (fI v 0 17 = -1 → ((¬ w = 3 → j_Mod_readItem_212 post (nI q) (nI Q.1.length) w (nI (qCol T n F (skip T n k2)).2.2) (nI (skip T n k2)) v) ∧ (w = 3 → wp_Mod_place _ 1 (nI (qCol T n F (skip T n k2)).2.2) v)))
      rw [qCol_skip]
      rw [if_neg (fun e => e c4)] at p
      obtain ⟨f1, f2, f3, -⟩ := qCol_f hB.2.2.2.1 (by omega) hk2n c4
      obtain ⟨-, -, u3, -, u5, -⟩ := hB.fq hv.1
      have hF := hB.2.2.2.1.1
      generalize (qCol T n F k2).2.2 = f at *
      have ok : ¬ (w = 3 ∧ ¬ whl (fTy F f)) → j_Mod_readItem_212 post (nI q) (nI Q.1.length) w (nI f) (nI (skip T n k2)) v := by
        intro d
        rw [if_neg d] at p
        unfold j_Mod_readItem_212
        refine s_qWant hB (by decide) (RqM.good hv) (fun v2 hv2 => ?_)
        refine s_q218 hB hv2 (fun e => ?_) p
        obtain ⟨-, e2, -⟩ := qSgn_q e (by omega) (show (qCol T n F k2).2.1 ≤ n from hv.2.2.2.1)
        rw [e2]
        exact ⟨rfl, hl⟩
      refine bn_t hv.2.1 ?_
      by_cases d1 : w = 3
      · refine bn_t d1 ?_
        rw [k_plM, pl1, show fN v 4 = 384 from u3 4, rA_nI (by omega), (u5.2.2.1 f f1).2.1]
        refine ⟨vp_in_nI (by omega) (by decide), s_whl ?_⟩
        by_cases d2 : whl (fTy F f)
        · rw [if_pos d2]; exact bn_f (by decide) (ok (fun e => e.2 d2))
        · rw [if_neg d2]
          rw [if_pos ⟨d1, d2⟩] at p
          refine bn_t rfl (s_qFail hB (by omega) (RqM.good hv) (fun v2 hv2 => ?_))
          exact m212 _ v2 _ _ (nI_nm1 (by omega)) hv2 p
      · exact bn_f d1 (ok (fun e => d1 e.1))
    · have c4 : ¬ (qCol T n F (skip T n k2)).1 = -1 := c4
      have hv : FfM True s x v (qCol T n F (skip T n k2)).1 := hv
      rw [qCol_skip] at c4 hv
      rw [if_pos c4] at p
      exact bn_f (by rw [hv.2.1]; exact c4) (m212 _ v _ _ c4 (hv.rs c4) p)
  · rw [qBd_b c] at p
    refine s_qCol hB hu (fun e => absurd e c) (fun c4 vv v hv => ?_)
    have hv : FfM True s x v (if (qSgn T n 40 (-1, k, Q)).1 = -1 then (qCol T n F (skip T n (qSgn T n 40 (-1, k, Q)).2.1)).1 else (qSgn T n 40 (-1, k, Q)).1) := hv
    rw [if_neg c] at hv
    exact bn_f (by rw [hv.2.1]; exact c) (m212 (qSgn T n 40 (-1, k, Q)) v _ _ c (hv.rs c) p)
theorem s_qItm (hB : BsM x T n F s) {post : St → Prop} {k : Nat} (h : GdM True n s x y k Q) (p : ∀ z, RqM True n s x (qItm T n F k Q) z → post z) : wp_Mod_readItem post y := by
  have t2 := hB.2.1
  have hk := h.2.2.2.1
  have sl := @skip_le T n k hk
  unfold wp_Mod_readItem
  unfold qItm at p
  refine s_qBlanks hB (RqM.good h) (fun z hz => ?_)
  have gz : GdM True n s x z (skip T n k) Q := hz.gd rfl
  obtain ⟨t1, -, t3, t4, t5, t6, t7⟩ := hB.fq gz.1
  have b1 := gz.2.2.2.2.1.1
  have h16 := b1.2.1
  refine nm_r gz.2.2.1 ?_
  rw [t6, q4, show fN z 79 = 12 from t3 79, rA_nI (by omega), b1.1]
  refine ⟨vp_in_nI (by omega) (by decide), nm_e ?_⟩
  by_cases c : Q.1.length = 16
  · rw [if_pos c] at p
    refine bn_t (by rw [c]; rfl) (s_qFail hB (by omega) hz (fun u hu => ?_))
    have hu : RqM True n s x (nI (skip T n k), skip T n k, Q) u := hu
    have ne : ¬ nI (skip T n k) = -1 := nI_nm1 (by omega)
    generalize hr : ((nI (skip T n k), skip T n k, Q) : QR) = r0 at hu p
    have nr : ¬ r0.1 = -1 := by rw [← hr]; exact ne
    have wk : ∀ {k1 : Nat} {Q1 : Qy} {v : St}, RqM True n s x (r0.1, k1, Q1) v → RqM True n s x r0 v := fun {k1 Q1 v} hv => (hv.ft nr).rs nr
    unfold j_Mod_readItem_32
    refine s_qWord hB gw_co.1 gw_co.2 hu (fun e => absurd e nr) (fun _ v hv => br_t rfl (s_qWord hB gw_su.1 gw_su.2 (wk hv) (fun e => absurd e nr) (fun _ v hv => br_t rfl (s_qWord hB gw_mi.1 gw_mi.2 (wk hv) (fun e => absurd e nr) (fun _ v hv => br_t rfl (s_qWord hB gw_ma.1 gw_ma.2 (wk hv) (fun e => absurd e nr) (fun _ v hv => br_t rfl ?_)))))))
    unfold j_Mod_readItem_89
    refine s_qBlanks hB (wk hv) (fun v hv => bn_t rfl (s_qPath hB (wk hv) (fun e => absurd e nr) (fun e v2 hv2 => ?_)))
    rw [if_neg nr] at hv2
    refine bn_f (by rw [hv2.2.1]; exact nr) (s_q218 hB (r := r0) (hv2.rs nr) (fun e => absurd e nr) (fun v3 hv3 => p v3 ?_))
    unfold qIt at hv3
    rw [if_neg nr] at hv3
    exact hv3
  · rw [if_neg c] at p
    refine bn_f (fun e => c ?_) ?_
    · rw [show (16 : Int32) = nI 16 from rfl, nI_eq (by omega) (by decide)] at e
      exact e
    -- a form
    have m89 : ∀ (w : Int32) (k2 : Nat) (u : St), ¬ w = 0 → 1 ≤ w → k2 ≤ n → qFm T n k = (skip T n k2, w) → RqM True n s x (-1, k2, Q) u → j_Mod_readItem_89 post (nI (skip T n k)) (nI Q.1.length) w u := by
      intro w k2 u hw hw1 hk2 e hu
      rw [e] at p
      rw [if_neg hw] at p
      unfold j_Mod_readItem_89
      refine s_qBlanks hB hu (fun v hv => bn_f hw ?_)
      have gv : GdM True n s x v (skip T n k2) Q := hv.gd rfl
      have u4 := gv.2.2.2.1
      by_cases c1 : w = 1
      · refine br_f (by rw [c1]; decide) (s_look (hB.fq gv.1).1 gv.2.2.1 (by omega) ?_)
        by_cases c2 : skip T n k2 < n ∧ T (skip T n k2) = 40
        · rw [if_neg (fun e => e.2 c2), if_pos c1] at p
          rw [if_pos c2.1]
          refine bn_t c2.2 ?_
          unfold j_Mod_readItem_143
          exact bn_t c1 (s_q153 hB gv c p)
        · rw [if_pos ⟨c1, c2⟩] at p
          refine bn_f (fun e => c2 ?_) (s_q218 hB (RqM.good gv) (fun _ => ⟨rfl, c⟩) (fun v2 hv2 => p v2 (by rw [c1] at hv2; exact hv2)))
          by_cases c3 : skip T n k2 < n
          · rw [if_pos c3] at e; exact ⟨c3, e⟩
          · rw [if_neg c3] at e; exact absurd e (by decide)
      · rw [if_neg (fun e => c1 e.1), if_neg c1] at p
        refine br_t (by (first | omega | (simp (disch := omega) only [Int32.le_iff_toInt_le, Int32.lt_iff_toInt_lt, z_eq, z_in, nI_toInt, z_cl, z_m1, z_sg, z_255, Int32.reduceToInt] at * <;> omega) | (simp only [Int32.le_iff_toInt_le, Int32.lt_iff_toInt_lt, z_eq, z_in, z_add, z_sub, z_mul, z_neg, z_nI, z_cl, z_sg, z_255, z_lit, Int32.reduceToInt] at * <;> omega))) ?_
        unfold j_Mod_readItem_143
        exact bn_f c1 (s_q153 hB gv c p)
    unfold j_Mod_readItem_32
    refine s_qWord hB gw_co.1 gw_co.2 hz (fun _ w u hu => br_f (by decide) ?_) (fun w u hu => br_t rfl ?_)
    · have w : isWd T n (skip T n (skip T n k)) [99, 111, 117, 110, 116] := w
      have hu : RqM True n s x (-1, skip T n (skip T n k) + 5, Q) u := hu
      rw [skip_skip] at w hu
      exact m89 1 _ u (by decide) (by decide) (isWd_le sl w) (by unfold qFm; rw [if_pos w]; rfl) hu
    have w : ¬ ((-1 : Int32) = -1 ∧ isWd T n (skip T n (skip T n k)) [99, 111, 117, 110, 116]) := w
    have hu : RqM True n s x (-1, skip T n (skip T n k), Q) u := hu
    rw [skip_skip] at w hu
    have w1 : ¬ isWd T n (skip T n k) [99, 111, 117, 110, 116] := fun e => w ⟨rfl, e⟩
    refine s_qWord hB gw_su.1 gw_su.2 hu (fun _ w u hu => br_f (by decide) ?_) (fun w u hu => br_t rfl ?_)
    · have w : isWd T n (skip T n (skip T n k)) [115, 117, 109] := w
      have hu : RqM True n s x (-1, skip T n (skip T n k) + 3, Q) u := hu
      rw [skip_skip] at w hu
      exact m89 3 _ u (by decide) (by decide) (isWd_le sl w) (by unfold qFm; rw [if_neg w1, if_pos w]; rfl) hu
    have w : ¬ ((-1 : Int32) = -1 ∧ isWd T n (skip T n (skip T n k)) [115, 117, 109]) := w
    have hu : RqM True n s x (-1, skip T n (skip T n k), Q) u := hu
    rw [skip_skip] at w hu
    have w2 : ¬ isWd T n (skip T n k) [115, 117, 109] := fun e => w ⟨rfl, e⟩
    refine s_qWord hB gw_mi.1 gw_mi.2 hu (fun _ w u hu => br_f (by decide) ?_) (fun w u hu => br_t rfl ?_)
    · have w : isWd T n (skip T n (skip T n k)) [109, 105, 110] := w
      have hu : RqM True n s x (-1, skip T n (skip T n k) + 3, Q) u := hu
      rw [skip_skip] at w hu
      exact m89 4 _ u (by decide) (by decide) (isWd_le sl w) (by unfold qFm; rw [if_neg w1, if_neg w2, if_pos w]; rfl) hu
    have w : ¬ ((-1 : Int32) = -1 ∧ isWd T n (skip T n (skip T n k)) [109, 105, 110]) := w
    have hu : RqM True n s x (-1, skip T n (skip T n k), Q) u := hu
    rw [skip_skip] at w hu
    have w3 : ¬ isWd T n (skip T n k) [109, 105, 110] := fun e => w ⟨rfl, e⟩
    refine s_qWord hB gw_ma.1 gw_ma.2 hu (fun _ w u hu => br_f (by decide) ?_) (fun w u hu => br_t rfl ?_)
    · have w : isWd T n (skip T n (skip T n k)) [109, 97, 120] := w
      have hu : RqM True n s x (-1, skip T n (skip T n k) + 3, Q) u := hu
      rw [skip_skip] at w hu
      exact m89 5 _ u (by decide) (by decide) (isWd_le sl w) (by unfold qFm; rw [if_neg w1, if_neg w2, if_neg w3, if_pos w]; rfl) hu
    have w : ¬ ((-1 : Int32) = -1 ∧ isWd T n (skip T n (skip T n k)) [109, 97, 120]) := w
    have hu : RqM True n s x (-1, skip T n (skip T n k), Q) u := hu
    rw [skip_skip] at w hu
    have w4 : ¬ isWd T n (skip T n k) [109, 97, 120] := fun e => w ⟨rfl, e⟩
    have ef : qFm T n k = (skip T n k, 0) := by unfold qFm; rw [if_neg w1, if_neg w2, if_neg w3, if_neg w4]
    rw [ef] at p
    rw [if_pos rfl] at p
    unfold j_Mod_readItem_89
    have ep : qPa T n F (skip T n (skip T n k)) = qPa T n F k := by unfold qPa; rw [skip_skip, skip_skip]
    refine s_qBlanks hB hu (fun v hv => bn_t rfl (s_qPath hB hv (fun _ e v2 hv2 => ?_) (fun e v2 hv2 => ?_)))
    · have e : (qPa T n F (skip T n (skip T n k))).1 = -1 := e
      have hv2 : GdM True n s x v2 (qPa T n F (skip T n (skip T n k))).2.1 Q := hv2
      show (¬ fI v2 0 17 = -1 → j_Mod_readItem_218 post (nI (skip T n k)) (nI Q.1.length) 0 (qPa T n F (skip T n (skip T n k))).2.2 v2) ∧ (fI v2 0 17 = -1 → ((¬ (qPa T n F (skip T n (skip T n k))).2.2 = -1 → j_Mod_readItem_218 post (nI (skip T n k)) (nI Q.1.length) 0 (qPa T n F (skip T n (skip T n k))).2.2 v2) ∧ ((qPa T n F (skip T n (skip T n k))).2.2 = -1 → wp_Mod_fail (fun v3 => j_Mod_readItem_218 post (nI (skip T n k)) (nI Q.1.length) 0 (qPa T n F (skip T n (skip T n k))).2.2 v3) (nI (skip T n k)) v2)))
      rw [ep] at e hv2 ⊢
      rw [if_neg (fun q => q e)] at p
      refine bn_t hv2.2.1 ?_
      by_cases d : (qPa T n F k).2.2 = -1
      · rw [if_pos d] at p
        refine bn_t d (s_qFail hB (by omega) (RqM.good hv2) (fun v3 hv3 => ?_))
        have hv3 : RqM True n s x (nI (skip T n k), (qPa T n F k).2.1, Q) v3 := hv3
        have ne : ¬ nI (skip T n k) = -1 := nI_nm1 (by omega)
        refine s_q218 hB hv3 (fun q => absurd q ne) (fun v4 hv4 => p v4 ?_)
        unfold qIt at hv4
        rw [if_neg ne] at hv4
        exact hv4
      · rw [if_neg d] at p
        exact bn_f d (s_q218 hB (RqM.good hv2) (fun _ => ⟨rfl, c⟩) p)
    · have e : ¬ (qPa T n F (skip T n (skip T n k))).1 = -1 := e
      have hv2 : FfM True s x v2 (qPa T n F (skip T n (skip T n k))).1 := hv2
      rw [ep] at e hv2
      rw [if_pos e] at p
      refine bn_f (by rw [hv2.2.1]; exact e) (s_q218 hB (hv2.rs (k := (qPa T n F k).2.1) (Q := Q) e) (fun q => absurd q e) (fun v4 hv4 => p v4 ?_))
      unfold qIt at hv4
      rw [if_neg e] at hv4
      exact hv4
end
