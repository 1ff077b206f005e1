/-! a group is looked at, model -/
theorem canS_lt {F : List SFd} {L : List QLt} {τ : Nat → Tl} {t : QSt} : canS F L τ t < 8 := by
  unfold canS
  split
  · exact mkS_lt _ _ _
  · split
    · exact mkS_lt _ _ _
    · split
      · show (if _ then _ else _) < 8
        split <;> exact mkS_lt _ _ _
      · show (if _ then (if _ then _ else _) else _) < 8
        split
        · split <;> exact mkS_lt _ _ _
        · exact mkS_lt _ _ _
theorem and2_c : ∀ i : Fin 8, ((nI i.val &&& 2) ≤ 0) ↔ ¬ tB3 i.val = true := by decide
theorem and2 {t : Nat} (h : t < 8) : ((nI t &&& 2) ≤ 0) ↔ ¬ tB3 t = true := and2_c ⟨t, h⟩
section
variable {x y : St} {F : List SFd} {G : List Nat} {K : List ChT} {CK : List (List PgW)} {Pl : List PV} {g j s : Nat} {Q : Qy}
theorem TdM.eq {ty d : Nat} {t : Tl} (h : TdM x ty Pl d t) (k : ∀ a, 97 ≤ a → a ≤ 102 → fA y a = fA x a) : TdM y ty Pl d t := by
  unfold TdM at *
  rw [k 97 (by decide) (by decide), k 98 (by decide) (by decide), k 99 (by decide) (by decide), k 100 (by decide) (by decide), k 101 (by decide) (by decide), k 102 (by decide) (by decide)]
  exact h
/-- can the condition be true, by what is told? -/
theorem s_condC {post : Int32 → St → Prop} {τ : Nat → Tl} (H : RdM x F G CK Pl) (hw : WfS F) (hs : s < 3) (h117 : fI x 0 117 = nI s) (hQ : KqM x s Q) (hW : QyW F Q) (hne : Q.2.2.1 ≠ []) (hT : ∀ f, AsC F Q f → TdM x (tyC F (ncol (F.take f))) Pl (ncol (F.take f)) (τ (ncol (F.take f))) ∧ 0 < (τ (ncol (F.take f))).1)
    (p1 : ∀ y, Fg96 x y → canQ F Q τ = true → ∀ r, ¬ (r &&& 2) ≤ 0 → post r y) (p0 : ∀ y, Fg96 x y → ¬ canQ F Q τ = true → ∀ r, (r &&& 2) ≤ 0 → post r y) : wp_Mod_condition post (-1) x := by
  have hg : hgt Q.2.2.1 0 = some 1 := hW.2.2.2.2.1.resolve_left hne
  refine s_cond (tv := canS F Q.2.2.2 τ) H.1 hs h117 hQ.1 hne hg (fun t ht => (stW_f (hW.2.2.2.1 t ht)).2.2) (fun t => canS_lt) (fun i hi n5 z P fz pz => ?_) (fun z fz => ?_)
  · refine ⟨fun e => absurd rfl e, fun _ => ?_⟩
    have Hz := H.lk (FrLk.of fz)
    have hm : Q.2.2.1.getD i (0, 0, 0, 0, 0) ∈ Q.2.2.1 := mem_gD hi
    refine s_canOf Hz.1 Hz.2.2.2.2.2.2.2.2.1 hw Hz.2.1 hs (hQ.lk (FrLk.of fz)) hi (hW.2.2.2.1 _ hm) (fun e => n5 (by rw [e]; decide)) (fun e => n5 (by rw [e]; decide)) (fun e => n5 (by rw [e]; decide)) (fun f hf h => ?_) pz
    have ha : AsC F Q f := ⟨hf, _, hm, h.elim (fun e => Or.inl ⟨n5, e⟩) (fun e => Or.inr e)⟩
    rw [(tOf_n hw hf).1]
    exact ⟨(hT f ha).1.eq (fun a a1 a2 => fz.2.2.2.1 a (by show ¬ a = 96; omega)), (hT f ha).2⟩
  · have c8 : cnd (canS F Q.2.2.2 τ) Q.2.2.1 < 8 := cnd_lt (fun t => canS_lt)
    by_cases d : canQ F Q τ = true
    · exact p1 z fz d _ (fun e => (and2 c8).mp e d)
    · exact p0 z fz d _ ((and2 c8).mpr d)
theorem rng_add {a b : Nat} {h : Nat → Bool} (base : Nat) : ((List.range (a + b)).map (fun i => base + i)).filter h = ((List.range a).map (fun i => base + i)).filter h ++ ((List.range b).map (fun i => base + a + i)).filter h := by
  rw [List.range_add, List.map_append, List.filter_append, List.map_map]
  congr 2
  refine List.map_congr_left (fun i _ => ?_)
  show base + (a + i) = _
  omega
theorem s_lookAtGroup {post : St → Prop} {L0 : List Nat} {S0 : Nat} (H : RnM x F G K CK Pl) (hw : WfS F) (ok : OkO F G CK) (wd : WdO F CK) (hl : CK.length = ncol F * G.length) (hs : s < 3) (h117 : fI x 0 117 = nI s) (hQ : KqM x s Q) (hW : QyW F Q) (hne : Q.2.2.1 ≠ []) (hg : g < G.length) (hF0 : FdM x L0) (hlen : L0.length ≤ smN (G.take g)) (h166 : fI x 0 166 = nI S0)
    (p : ∀ y, FrLk x y → fI y 0 165 = fI x 0 165 → fI y 0 166 = nI (S0 + skS F Q CK g (G.getD g 0) (G.getD g 0) 0) → FdM y (L0 ++ ((List.range (G.getD g 0)).map (fun i => smN (G.take g) + i)).filter (hit F G CK Q)) → post y) : wp_Mod_lookAtGroup post (nI (smN (G.take g))) (nI (smN (G.take g) + G.getD g 0)) x := by
  have hC := hw.2.1
  have h2000 := H.1.2.2.2.2.1
  have l64 : Q.2.2.2.length < 2 ^ 31 := by
    have := hQ.1.2.2.2.2.1
    omega
  have sg := smN_take hg
  have sG := smN_le (G := G) (g := g + 1)
  unfold wp_Mod_lookAtGroup
  generalize hn : G.getD g 0 = n at *
  generalize hb : smN (G.take g) = base at *
  refine lp_Mod_lookAtGroup_2 (fun b1 b2 b3 y => nI base = b1 ∧ nI (base + n) = b2 ∧ ∃ j m S, j ≤ n ∧ n - j ≤ m ∧ nI (base + j) = b3 ∧ FrLk x y ∧ fI y 0 165 = fI x 0 165 ∧ fI y 0 166 = nI S ∧ S + skS F Q CK g n m j = S0 + skS F Q CK g n n 0 ∧ FdM y (L0 ++ ((List.range j).map (fun i => base + i)).filter (hit F G CK Q))) (fun _ _ b3 _ => base + n - b3.toNatClampNeg) ?_ _ _ _ _ ⟨rfl, rfl, 0, n, S0, Nat.zero_le _, Nat.le_refl _, rfl, Fg.refl x, rfl, h166, rfl, by rw [List.range_zero]; show FdM x (L0 ++ []); rw [List.append_nil]; exact hF0⟩
  rintro R b1 b2 b3 y ⟨rfl, rfl, j, m, S, hj, hm, rfl, f, e165, e166, eS, hfd⟩ ih
  unfold j_Mod_lookAtGroup_2
  by_cases c : j = n
  · subst c
    have : skS F Q CK g j m j = 0 := by
      cases m with
      | zero => rfl
      | succ m => unfold skS; rw [if_pos (Nat.le_refl _)]
    rw [this, Nat.add_zero] at eS
    rw [eS] at e166
    exact br_t (by (first | omega | (simp (disch := omega) only [Int32.le_iff_toInt_le, Int32.lt_iff_toInt_lt, z_eq, z_in, nI_toInt, z_cl, z_m1, z_sg, z_255, Int32.reduceToInt] <;> omega) | (simp only [Int32.le_iff_toInt_le, Int32.lt_iff_toInt_lt, z_eq, z_in, z_add, z_sub, z_mul, z_neg, z_nI, z_cl, z_sg, z_255, z_lit, Int32.reduceToInt] <;> omega))) (p y f e165 e166 hfd)
  · have jn : j < n := by omega
    obtain ⟨m, rfl⟩ : ∃ k, m = k + 1 := ⟨m - 1, by omega⟩
    have Hy := H.lk f
    have Qy := hQ.lk f
    have y117 : fI y 0 117 = nI s := (f.1 0 117 (fun z => by omega)).trans h117
    have eu : skS F Q CK g n (m + 1) j = (if canQ F Q (tlP F CK g j) = true then 0 else 1) + skS F Q CK g n m (mnE F Q.2.2.1 CK g n j (ncol F)) := by
      conv => lhs; unfold skS
      rw [if_neg (by omega)]
    rw [eu] at eS
    have mle := mnE_le (F := F) (CK := CK) (g := g) (j := j) (E := Q.2.2.1) (n := n) (m := ncol F)
    have mgt : j < mnE F Q.2.2.1 CK g n j (ncol F) := mnE_gt jn _ (fun c _ ha => (ask_pg hw hW ok hl hg (by rw [hn]; exact jn) ha).2.2.2.1)
    have flen : (((List.range j).map (fun i => base + i)).filter (hit F G CK Q)).length ≤ j := by
      have := List.length_filter_le (hit F G CK Q) ((List.range j).map (fun i => base + i))
      rw [List.length_map, List.length_range] at this
      exact this
    refine br_f (by (first | omega | (simp (disch := omega) only [Int32.le_iff_toInt_le, Int32.lt_iff_toInt_lt, z_eq, z_in, nI_toInt, z_cl, z_m1, z_sg, z_255, Int32.reduceToInt] <;> omega) | (simp only [Int32.le_iff_toInt_le, Int32.lt_iff_toInt_lt, z_eq, z_in, z_add, z_sub, z_mul, z_neg, z_nI, z_cl, z_sg, z_255, z_lit, Int32.reduceToInt] <;> omega))) ?_
    refine lp_Mod_lookAtGroup_13 (fun b1 b2 b3 b4 b5 z => nI base = b1 ∧ nI (base + n) = b2 ∧ nI (base + j) = b3 ∧ ∃ c, c ≤ ncol F ∧ nI (base + mnE F Q.2.2.1 CK g n j c) = b4 ∧ nI c = b5 ∧ FrLk y z ∧ (∀ k, fI z 0 k = fI y 0 k) ∧ fA z 103 = fA y 103 ∧ ∀ f, AsC F Q f → ncol (F.take f) < c → TdM z (tyC F (ncol (F.take f))) Pl (ncol (F.take f)) (tlP F CK g j (ncol (F.take f)))) (fun _ _ _ _ b5 _ => ncol F - b5.toNatClampNeg) ?_ _ _ _ _ _ _ ⟨rfl, rfl, rfl, 0, Nat.zero_le _, rfl, rfl, Fg.refl y, fun _ => rfl, rfl, fun f _ hf => absurd hf (Nat.not_lt_zero _)⟩
    rintro R2 b1 b2 b3 b4 b5 z ⟨rfl, rfl, rfl, c, hc, rfl, rfl, fz, zI, z103, zT⟩ ih2
    have Hz := Hy.lk fz
    have Qz := Qy.lk fz
    have z117 : fI z 0 117 = nI s := (zI 117).trans y117
    have z10 : rA z 10 1 = nI (ncol F) := by
      show fA z 10 1 = _
      exact Hz.1.2.1.2.1
    unfold j_Mod_lookAtGroup_13
    rw [z10, show fN z 10 = 3 from Hz.1.1 10]
    refine ⟨vp_in_nI (by decide) (by decide), ?_⟩
    by_cases cc : c = ncol F
    · subst cc
      refine br_t (by (first | omega | (simp (disch := omega) only [Int32.le_iff_toInt_le, Int32.lt_iff_toInt_lt, z_eq, z_in, nI_toInt, z_cl, z_m1, z_sg, z_255, Int32.reduceToInt] <;> omega) | (simp only [Int32.le_iff_toInt_le, Int32.lt_iff_toInt_lt, z_eq, z_in, z_add, z_sub, z_mul, z_neg, z_nI, z_cl, z_sg, z_255, z_lit, Int32.reduceToInt] <;> omega))) ?_
      refine s_condC (τ := tlP F CK g j) Hz.1 hw hs z117 Qz hW hne (fun f hf => ⟨zT f hf (col_ok hw hf.1).1, ?_⟩) (fun w fw can r hr => ?_) (fun w fw can r hr => ?_)
      · obtain ⟨_, _, q3, _⟩ := ask_pg (j := j) hw hW ok hl hg (by rw [hn]; exact jn) (hf.ask hw)
        obtain ⟨i, hi, -⟩ := pgI_en (X := CK.getD (ncol F * g + ncol (F.take f)) []) (j := j) (by rw [q3, hn]; exact jn)
        show 0 < (pgA (CK.getD (ncol F * g + ncol (F.take f)) []) j).1.length
        omega
      · rw [if_pos can, Nat.zero_add] at eS
        refine br_f hr ?_
        have wI : ∀ k, fI w 0 k = fI y 0 k := fun k => (fw.1 0 k (fun q => q)).trans (zI k)
        have hfw : FdM w (L0 ++ ((List.range j).map (fun i => base + i)).filter (hit F G CK Q)) := by
          refine ⟨(wI 160).trans hfd.1, fun i hi => ?_⟩
          have w103 : fA w 103 = fA z 103 := fw.2.2.2.1 103 (by show ¬ (103 : Nat) = 96; decide)
          rw [w103, z103]
          exact hfd.2 i hi
        refine s_lookAt (Hz.lk (FrLk.of fw)).1 hw ok hl hs ((wI 117).trans y117) (Qz.lk (FrLk.of fw)) hW hne (by omega) (by omega) hfw (by rw [List.length_append]; omega) (fun v fv v165 v166 hfv _ => ?_)
        unfold j_Mod_lookAtGroup_97
        refine ih _ _ _ _ ⟨rfl, rfl, mnE F Q.2.2.1 CK g n j (ncol F), m, S, mle.1, by omega, rfl, ((f.trans fz).trans (FrLk.of fw)).trans fv, v165.trans ((wI 165).trans e165), v166.trans ((wI 166).trans e166), eS, ?_⟩ ?_
        · rw [List.append_assoc, show base + mnE F Q.2.2.1 CK g n j (ncol F) - (base + j) = mnE F Q.2.2.1 CK g n j (ncol F) - j by omega, ← rng_add, show j + (mnE F Q.2.2.1 CK g n j (ncol F) - j) = mnE F Q.2.2.1 CK g n j (ncol F) by omega] at hfv
          exact hfv
        · rw [nI_clamp (by omega), nI_clamp (by omega)]
          omega
      · rw [if_neg can] at eS
        have wI : ∀ k, fI w 0 k = fI y 0 k := fun k => (fw.1 0 k (fun q => q)).trans (zI k)
        have w103 : fA w 103 = fA z 103 := fw.2.2.2.1 103 (by show ¬ (103 : Nat) = 96; decide)
        have ez : ((List.range (mnE F Q.2.2.1 CK g n j (ncol F))).map (fun i => base + i)).filter (hit F G CK Q) = ((List.range j).map (fun i => base + i)).filter (hit F G CK Q) := by
          have ee : ((List.range (mnE F Q.2.2.1 CK g n j (ncol F) - j)).map (fun i => base + j + i)).filter (hit F G CK Q) = [] := by
            rw [List.filter_eq_nil_iff]
            intro a ha
            obtain ⟨i, hi, rfl⟩ := List.mem_map.mp ha
            have hi := List.mem_range.mp hi
            have := hit_page (i := j + i) hw hW l64 ok wd hl hg can (by rw [hn]; exact jn) (Nat.le_add_right _ _) (by rw [hn]; omega)
            rw [hb, ← Nat.add_assoc] at this
            rw [this]
            exact Bool.false_ne_true
          have := rng_add (a := j) (b := mnE F Q.2.2.1 CK g n j (ncol F) - j) (h := hit F G CK Q) base
          rw [ee, List.append_nil, show j + (mnE F Q.2.2.1 CK g n j (ncol F) - j) = mnE F Q.2.2.1 CK g n j (ncol F) by omega] at this
          exact this
        refine br_t hr (nm_r (e' := setI w 0 166 (nI (S + 1))) (by rw [wI, e166, nI_1]) ?_)
        unfold j_Mod_lookAtGroup_97
        refine ih _ _ _ _ ⟨rfl, rfl, mnE F Q.2.2.1 CK g n j (ncol F), m, S + 1, mle.1, by omega, rfl, ((f.trans fz).trans (FrLk.of fw)).trans (Fg.i (by decide)), ?_, gI_at, by omega, ?_⟩ ?_
        · rw [gI_ne (by decide)]
          exact (wI 165).trans e165
        · rw [ez]
          refine ⟨?_, fun i hi => ?_⟩
          · rw [gI_ne (by decide)]
            exact (wI 160).trans hfd.1
          · show fA w 103 i = _
            rw [w103, z103]
            exact hfd.2 i hi
        · rw [nI_clamp (by omega), nI_clamp (by omega)]
          omega
    · refine br_f (by (first | omega | (simp (disch := omega) only [Int32.le_iff_toInt_le, Int32.lt_iff_toInt_lt, z_eq, z_in, nI_toInt, z_cl, z_m1, z_sg, z_255, Int32.reduceToInt] <;> omega) | (simp only [Int32.le_iff_toInt_le, Int32.lt_iff_toInt_lt, z_eq, z_in, z_add, z_sub, z_mul, z_neg, z_nI, z_cl, z_sg, z_255, z_lit, Int32.reduceToInt] <;> omega))) ?_
      have cN : c < ncol F := by omega
      have nx : ∀ v, FrLk z v → (∀ k, fI v 0 k = fI z 0 k) → fA v 103 = fA z 103 → (∀ f, AsC F Q f → ncol (F.take f) < c + 1 → TdM v (tyC F (ncol (F.take f))) Pl (ncol (F.take f)) (tlP F CK g j (ncol (F.take f)))) → j_Mod_lookAtGroup_61 post R R2 (nI base) (nI (base + n)) (nI (base + j)) (nI (base + mnE F Q.2.2.1 CK g n j (c + 1))) (nI c) v := by
        intro v fv vI v103 vT
        unfold j_Mod_lookAtGroup_61
        rw [nI_1]
        refine ih2 _ _ _ _ _ _ ⟨rfl, rfl, rfl, c + 1, cN, rfl, rfl, fz.trans fv, fun k => (vI k).trans (zI k), v103.trans z103, vT⟩ ?_
        rw [nI_clamp (by omega), nI_clamp (by omega)]
        omega
      refine s_asks Hz.1.1 hw Hz.1.2.1 hs z117 Qz.1 hW.2.2.2.1 (by omega) ?_
      by_cases d : askB F Q.2.2.1 c = true
      · rw [if_pos d]
        refine bn_f (by decide) ?_
        have em : mnE F Q.2.2.1 CK g n j (c + 1) = min (mnE F Q.2.2.1 CK g n j c) (pgE (CK.getD (ncol F * g + c) []) j) := by
          conv => lhs; unfold mnE
          rw [if_pos d]
        have ap := ask_pg (j := j) hw hW ok hl hg (by rw [hn]; exact jn) d
        have ml := (mnE_le (F := F) (CK := CK) (g := g) (j := j) (E := Q.2.2.1) (n := n) (m := c)).1
        rw [em] at nx
        obtain ⟨f', hf', ef⟩ := ask_AsC hw hW d
        subst ef
        rw [← hb]
        refine s_tellPage Hz hw ok wd hl hg hf'.1 (by rw [hn]; exact jn) (fun v fv vI v103 vK vT => ?_)
        rw [hb]
        rw [hn] at ap
        have vT2 : ∀ f, AsC F Q f → ncol (F.take f) < ncol (F.take f') + 1 → TdM v (tyC F (ncol (F.take f))) Pl (ncol (F.take f)) (tlP F CK g j (ncol (F.take f))) := by
          intro f hf hc2
          by_cases q : ncol (F.take f) = ncol (F.take f')
          · rw [q]; exact vT
          · exact (zT f hf (by omega)).keep vK q
        by_cases le : mnE F Q.2.2.1 CK g n j (ncol (F.take f')) ≤ pgE (CK.getD (ncol F * g + ncol (F.take f')) []) j
        · rw [Nat.min_eq_left le] at nx
          exact br_t (by (first | omega | (simp (disch := omega) only [Int32.le_iff_toInt_le, Int32.lt_iff_toInt_lt, z_eq, z_in, nI_toInt, z_cl, z_m1, z_sg, z_255, Int32.reduceToInt] <;> omega) | (simp only [Int32.le_iff_toInt_le, Int32.lt_iff_toInt_lt, z_eq, z_in, z_add, z_sub, z_mul, z_neg, z_nI, z_cl, z_sg, z_255, z_lit, Int32.reduceToInt] <;> omega))) (nx v fv vI v103 vT2)
        · rw [Nat.min_eq_right (by omega)] at nx
          exact br_f (by (first | omega | (simp (disch := omega) only [Int32.le_iff_toInt_le, Int32.lt_iff_toInt_lt, z_eq, z_in, nI_toInt, z_cl, z_m1, z_sg, z_255, Int32.reduceToInt] <;> omega) | (simp only [Int32.le_iff_toInt_le, Int32.lt_iff_toInt_lt, z_eq, z_in, z_add, z_sub, z_mul, z_neg, z_nI, z_cl, z_sg, z_255, z_lit, Int32.reduceToInt] <;> omega))) (nx v fv vI v103 vT2)
      · rw [if_neg d]
        refine bn_t rfl ?_
        have em : mnE F Q.2.2.1 CK g n j (c + 1) = mnE F Q.2.2.1 CK g n j c := by
          conv => lhs; unfold mnE
          rw [if_neg d]
        rw [em] at nx
        refine nx z (Fg.refl z) (fun _ => rfl) rfl (fun f hf hc2 => zT f hf ?_)
        rcases Nat.lt_or_ge (ncol (F.take f)) c with q | q
        · exact q
        · have : ncol (F.take f) = c := by omega
          rw [← this] at d
          exact absurd (hf.ask hw) d
end
