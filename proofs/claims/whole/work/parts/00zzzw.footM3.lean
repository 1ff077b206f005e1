/-! the model: what a chunk tells, all of it -/
def chB (E : List SEn) (ty md bl pg : Nat) (es : List Nat) : List Nat := varB bl ++ (varB pg ++ (varB es.length ++ (varB (es.length - (vs E md es).length) ++ bndB ty (pvs E (vs E md es)))))
theorem s_putChunk {post : St → Prop} {x : St} {F : List SFd} {RS : List (List SEn)} {c fr to ty wh bl pg : Nat} {B : List Nat} (hL : LM x) (hw : WfS F) (hR : RepM x 0 F) (hc : c < ncol F) (hc64 : c < 64) (hty4 : ty < 4) (hty : fTy F (lfC F c) = nI ty) (h : RcM x RS) (hft : fr ≤ to) (hto : to ≤ RS.length) (hwh : wh < 13400) (hcl : ∀ i, i < RS.flatten.length → (en RS.flatten i).1 < 64 ∧ (en RS.flatten i).2.2.1 < 128) (hmd : dG F (nI (lfC F c)) ≤ 17)
    (hok : ∀ i, i < RS.flatten.length → (en RS.flatten i).1 = c → okVv ty (pvI RS.flatten i)) (h50 : fA x 50 wh = nI bl) (h51 : fA x 51 wh = nI pg) (hbl : bl < 2 ^ 30) (hpg : pg < 2 ^ 30) (hS : Sh x B) (hB : B.length ≤ 2 ^ 26)
    (p : ∀ y, FrSh x y → Sh y (B ++ chB RS.flatten ty (dG F (nI (lfC F c))) bl pg (cs RS c fr to)) → post y) : wp_Mod_putChunk post (nI wh) (nI c) (nI fr) (nI to) x := by
  have h4 := h.2.2.2.1
  have hl := h.2.1.1
  have e23 : fN x 23 = 2001 := hL 23
  have e20 : fN x 20 = 10000 := hL 20
  have e50 : fN x 50 = 13400 := hL 50
  have m1 : rA0 RS fr ≤ rA0 RS to := rw_mono hft
  have m2 : rA0 RS to ≤ RS.flatten.length := rw_le
  unfold wp_Mod_putChunk
  refine s_typeOf hL hw hR hc hc64 ⟨vp_in_nI (by omega) (by omega), nm_r (e' := nI (rA0 RS fr)) (by rw [rA_nI (by omega)]; exact h.2.2.2.2 fr (by omega)) ?_⟩
  rw [hty]
  generalize hmdd : dG F (nI (lfC F c)) = md at *
  have memv : ∀ d j, d ≤ rA0 RS to - rA0 RS fr → j < (vs RS.flatten md (sg RS.flatten c (rA0 RS fr) d)).length → (vs RS.flatten md (sg RS.flatten c (rA0 RS fr) d)).getD j 0 < RS.flatten.length ∧ (en RS.flatten ((vs RS.flatten md (sg RS.flatten c (rA0 RS fr) d)).getD j 0)).1 = c := by
    have key : ∀ d i, d ≤ rA0 RS to - rA0 RS fr → i ∈ sg RS.flatten c (rA0 RS fr) d → i < RS.flatten.length ∧ (en RS.flatten i).1 = c := by
      intro d
      induction d with
      | zero => intro i _ hi; exact absurd hi (by show ¬ i ∈ []; simp)
      | succ d ih =>
        intro i hd hi
        have hi : i ∈ sg RS.flatten c (rA0 RS fr) d ++ (if (en RS.flatten (rA0 RS fr + d)).1 = c then [rA0 RS fr + d] else []) := hi
        rcases List.mem_append.mp hi with z | z
        · exact ih i (by omega) z
        · by_cases w : (en RS.flatten (rA0 RS fr + d)).1 = c
          · rw [if_pos w] at z
            rw [List.mem_singleton.mp z]
            exact ⟨by omega, w⟩
          · rw [if_neg w] at z
            exact absurd z (by simp)
    exact fun d j hd hj => key d _ hd (List.mem_filter.mp (gd_mem hj)).1
  have ng : ∀ i, i < RS.flatten.length → ¬ nI i = -1 := fun i hi => by (first | omega | (simp (disch := omega) only [Int32.le_iff_toInt_le, Int32.lt_iff_toInt_lt, z_eq, z_in, nI_toInt, z_cl, z_m1, z_sg, z_255, Int32.reduceToInt] <;> omega) | (simp only [Int32.le_iff_toInt_le, Int32.lt_iff_toInt_lt, z_eq, z_in, z_add, z_sub, z_mul, z_neg, z_nI, z_cl, z_sg, z_255, z_lit, Int32.reduceToInt] <;> omega))
  refine lp_Mod_putChunk_25 (fun a0 a1 a2 a3 a4 a5 a6 a7 a8 y => nI wh = a0 ∧ nI c = a1 ∧ nI fr = a2 ∧ nI to = a3 ∧ nI ty = a7 ∧ x = y ∧ ∃ d, nI (rA0 RS fr + d) = a8 ∧ d ≤ rA0 RS to - rA0 RS fr ∧ mnI RS.flatten ty (vs RS.flatten md (sg RS.flatten c (rA0 RS fr) d)) = a4 ∧ mxI RS.flatten ty (vs RS.flatten md (sg RS.flatten c (rA0 RS fr) d)) = a5 ∧ nI ((sg RS.flatten c (rA0 RS fr) d).length - (vs RS.flatten md (sg RS.flatten c (rA0 RS fr) d)).length) = a6) (fun _ _ _ _ _ _ _ _ a8 _ => rA0 RS to - a8.toNatClampNeg) ?_ _ _ _ _ _ _ _ _ _ _ ⟨rfl, rfl, rfl, rfl, rfl, rfl, 0, rfl, Nat.zero_le _, rfl, rfl, rfl⟩
  rintro Q a0 a1 a2 a3 a4 a5 a6 a7 a8 y ⟨rfl, rfl, rfl, rfl, rfl, rfl, d, rfl, d1, rfl, rfl, rfl⟩ ih
  have vle := vs_le (E := RS.flatten) (md := md) (es := sg RS.flatten c (rA0 RS fr) d)
  have sle := sg_le (E := RS.flatten) (c := c) (a := rA0 RS fr) d
  unfold j_Mod_putChunk_25
  refine ⟨vp_in_nI (by omega) (by omega), ?_⟩
  have r23 : rA x 23 (nI to) = nI (rA0 RS to) := by rw [rA_nI (by omega)]; exact h.2.2.2.2 to hto
  rw [r23]
  by_cases cd : rA0 RS fr + d < rA0 RS to
  · have hi : rA0 RS fr + d < RS.flatten.length := by omega
    have lt := hcl _ hi
    refine br_f (by rw [nI_leI (by omega) (by omega)]; omega) ⟨vp_in_nI (by omega) (by omega), ?_⟩
    rw [rA_nI (by omega), (h.1.2.2 _ hi).1]
    unfold j_Mod_putChunk_122
    rw [nI_1]
    have mem := memv d
    by_cases z : (en RS.flatten (rA0 RS fr + d)).1 = c
    · have es1 : sg RS.flatten c (rA0 RS fr) (d + 1) = sg RS.flatten c (rA0 RS fr) d ++ [rA0 RS fr + d] := by
        show sg RS.flatten c (rA0 RS fr) d ++ _ = _
        rw [if_pos z]
      generalize hes : sg RS.flatten c (rA0 RS fr) d = es at *
      have hlen : (es ++ [rA0 RS fr + d]).length = es.length + 1 := by rw [List.length_append]; rfl
      refine br_t (congrArg nI z) (s_has hL hw hR hc hc64 h hi z lt.2 (by rw [hmdd]; exact hmd) (fun w => bn_f (by decide) ?_) (fun w => bn_t rfl ?_))
      · rw [hmdd] at w
        have ev : vs RS.flatten md (es ++ [rA0 RS fr + d]) = vs RS.flatten md es ++ [rA0 RS fr + d] := by rw [vs_app, if_pos w]
        generalize hvs : vs RS.flatten md es = vv at *
        have hvl : (vv ++ [rA0 RS fr + d]).length = vv.length + 1 := by rw [List.length_append]; rfl
        have fin : ∀ l5 l6, l5 = mnI RS.flatten ty (vv ++ [rA0 RS fr + d]) → l6 = mxI RS.flatten ty (vv ++ [rA0 RS fr + d]) → Q (nI wh) (nI c) (nI fr) (nI to) l5 l6 (nI (es.length - vv.length)) (nI ty) (nI (rA0 RS fr + d + 1)) x := fun l5 l6 e5 e6 => ih _ _ _ _ _ _ _ _ _ _ ⟨rfl, rfl, rfl, rfl, rfl, rfl, d + 1, rfl, by omega, by rw [es1, ev, e5], by rw [es1, ev, e6], by rw [es1, ev, hlen, hvl, Nat.add_sub_add_right]⟩ (by rw [nI_clamp (by omega), nI_clamp (by omega)]; omega)
        have oki := hok _ hi z
        by_cases v0 : vv.length = 0
        · have b := mn_0 (E := RS.flatten) (ty := ty) (i := rA0 RS fr + d) v0
          have e1 : mnI RS.flatten ty vv = -1 := by unfold mnI; rw [if_pos v0]
          have e2 : mxI RS.flatten ty vv = -1 := by unfold mxI; rw [if_pos v0]
          refine br_t e1 ?_
          unfold j_Mod_putChunk_85 j_Mod_putChunk_92 j_Mod_putChunk_113 j_Mod_putChunk_120 j_Mod_putChunk_122
          rw [nI_1]
          exact br_t e2 (fin _ _ b.1.symm b.2.symm)
        · have k1 := mnF_le (ty := ty) (P := pvs RS.flatten vv) (vv.length - 1)
          have k2 := mxF_le (ty := ty) (P := pvs RS.flatten vv) (vv.length - 1)
          have g1 := mem (mnF ty (pvs RS.flatten vv) (vv.length - 1)) d1 (by omega)
          have g2 := mem (mxF ty (pvs RS.flatten vv) (vv.length - 1)) d1 (by omega)
          have s1 := mn_step (E := RS.flatten) (ty := ty) (i := rA0 RS fr + d) v0
          have s2 := mx_step (E := RS.flatten) (ty := ty) (i := rA0 RS fr + d) v0
          have e1 : mnI RS.flatten ty vv = nI (vv.getD (mnF ty (pvs RS.flatten vv) (vv.length - 1)) 0) := by unfold mnI; rw [if_neg v0]
          have e2 : mxI RS.flatten ty vv = nI (vv.getD (mxF ty (pvs RS.flatten vv) (vv.length - 1)) 0) := by unfold mxI; rw [if_neg v0]
          -- the greatest
          have g92 : ∀ s0, s0 = mnI RS.flatten ty (vv ++ [rA0 RS fr + d]) → j_Mod_putChunk_92 post Q (nI wh) (nI c) (nI fr) (nI to) (mnI RS.flatten ty vv) (mxI RS.flatten ty vv) (nI (es.length - vv.length)) (nI ty) (nI (rA0 RS fr + d)) s0 x := fun s0 hs0 => by
            unfold j_Mod_putChunk_92 j_Mod_putChunk_113 j_Mod_putChunk_120 j_Mod_putChunk_122
            rw [e2, nI_1]
            refine br_f (ng _ g2.1) (s_against2 hL h hty4 hi g2.1 oki (hok _ g2.1 g2.2) ?_)
            by_cases e : 0 < cmpV ty (pvI RS.flatten (rA0 RS fr + d)) (pvI RS.flatten (vv.getD (mxF ty (pvs RS.flatten vv) (vv.length - 1)) 0))
            · refine br_f (by rw [Int32.le_iff_toInt_le]; have e' := Int32.lt_iff_toInt_lt.mp e; show ¬ (cmpV ty _ _).toInt ≤ _; omega) (fin _ _ hs0 ?_)
              rw [s2, if_pos e]
            · refine br_t (by rw [Int32.le_iff_toInt_le]; have e' := mt Int32.lt_iff_toInt_lt.mpr e; show (cmpV ty _ _).toInt ≤ _; omega) (fin _ _ hs0 ?_)
              rw [s2, if_neg e, e2]
          refine br_f (by rw [e1]; exact ng _ g1.1) ?_
          unfold j_Mod_putChunk_85
          have t1 : mnI RS.flatten ty vv = nI (vv.getD (mnF ty (pvs RS.flatten vv) (vv.length - 1)) 0) := e1
          suffices hsuf : wp_Mod_against2 (fun (r840 : Int32) (x839 : St) => ((0 ≤ r840 → j_Mod_putChunk_92 post Q (nI wh) (nI c) (nI fr) (nI to) (mnI RS.flatten ty vv) (mxI RS.flatten ty vv) (nI (es.length - vv.length)) (nI ty) (nI (rA0 RS fr + d)) (mnI RS.flatten ty vv) x839) ∧ (¬ 0 ≤ r840 → j_Mod_putChunk_92 post Q (nI wh) (nI c) (nI fr) (nI to) (mnI RS.flatten ty vv) (mxI RS.flatten ty vv) (nI (es.length - vv.length)) (nI ty) (nI (rA0 RS fr + d)) (nI (rA0 RS fr + d)) x839))) (nI (rA0 RS fr + d)) (nI (vv.getD (mnF ty (pvs RS.flatten vv) (vv.length - 1)) 0)) (nI ty) x by
            rw [← t1] at hsuf
            exact hsuf
          refine s_against2 hL h hty4 hi g1.1 oki (hok _ g1.1 g1.2) ?_
          by_cases e : cmpV ty (pvI RS.flatten (rA0 RS fr + d)) (pvI RS.flatten (vv.getD (mnF ty (pvs RS.flatten vv) (vv.length - 1)) 0)) < 0
          · refine br_f (by rw [Int32.le_iff_toInt_le]; have e' := Int32.lt_iff_toInt_lt.mp e; show ¬ _ ≤ (cmpV ty _ _).toInt; omega) (g92 _ ?_)
            rw [s1, if_pos e]
          · refine br_t (by rw [Int32.le_iff_toInt_le]; have e' := mt Int32.lt_iff_toInt_lt.mpr e; show _ ≤ (cmpV ty _ _).toInt; omega) (g92 _ ?_)
            rw [s1, if_neg e]
      · rw [hmdd] at w
        have ev : vs RS.flatten md (es ++ [rA0 RS fr + d]) = vs RS.flatten md es := by rw [vs_app, if_neg w, List.append_nil]
        rw [nI_1]
        exact ih _ _ _ _ _ _ _ _ _ _ ⟨rfl, rfl, rfl, rfl, rfl, rfl, d + 1, rfl, by omega, by rw [es1, ev], by rw [es1, ev], by rw [es1, ev, hlen]; congr 1; omega⟩ (by rw [nI_clamp (by omega), nI_clamp (by omega)]; omega)
    · refine br_f (fun w => z (nI_inj (by omega) (by omega) w)) ?_
      have es1 : sg RS.flatten c (rA0 RS fr) (d + 1) = sg RS.flatten c (rA0 RS fr) d := by
        show sg RS.flatten c (rA0 RS fr) d ++ _ = _
        rw [if_neg z, List.append_nil]
      rw [nI_1]
      exact ih _ _ _ _ _ _ _ _ _ _ ⟨rfl, rfl, rfl, rfl, rfl, rfl, d + 1, rfl, by omega, by rw [es1], by rw [es1], by rw [es1]⟩ (by rw [nI_clamp (by omega), nI_clamp (by omega)]; omega)
  · have ed : d = rA0 RS to - rA0 RS fr := by omega
    have ecs : sg RS.flatten c (rA0 RS fr) d = cs RS c fr to := by rw [ed]; rfl
    have mem := memv d
    rw [ecs] at vle sle mem ⊢
    refine br_t (by rw [nI_leI (by omega) (by omega)]; omega) ⟨vp_in_nI (by omega) (by omega), ?_⟩
    rw [rA_nI (by omega), h50, show (nI bl).toInt64 = lN bl from nI_l (by omega)]
    refine s_varint hS (by omega) (fun y1 f1 s1 => ?_)
    rw [uL_lN (by omega)] at s1
    have hL1 := f1.lm hL
    have hR1 := f1.rc h
    have e51 : fN y1 51 = 13400 := hL1 51
    have v1 := varB_len bl
    refine ⟨vp_in_nI (by omega) (by omega), ?_⟩
    rw [show rA y1 51 (nI wh) = nI pg from by rw [rA_nI (by omega)]; show y1.2.2.2.1 51 wh = _; rw [f1.2.2.2.1 51 (by decide)]; exact h51, show (nI pg).toInt64 = lN pg from nI_l (by omega)]
    refine s_varint s1 (by rw [List.length_append]; omega) (fun y2 f2 s2 => ?_)
    rw [uL_lN (by omega)] at s2
    have hL2 := f2.lm hL1
    have hR2 := f2.rc hR1
    have v2 := varB_len pg
    refine s_many hL2 hR2 hc64 hft hto (fun i hi => (hcl i hi).1) ?_
    rw [show sg RS.flatten c (RS.take fr).flatten.length ((RS.take to).flatten.length - (RS.take fr).flatten.length) = cs RS c fr to from rfl, show (nI (cs RS c fr to).length).toInt64 = lN (cs RS c fr to).length from nI_l (by omega)]
    refine s_varint s2 (by rw [List.length_append, List.length_append]; omega) (fun y3 f3 s3 => ?_)
    rw [uL_lN (by omega)] at s3
    have v3 := varB_len (cs RS c fr to).length
    rw [show (nI ((cs RS c fr to).length - (vs RS.flatten md (cs RS c fr to)).length)).toInt64 = lN ((cs RS c fr to).length - (vs RS.flatten md (cs RS c fr to)).length) from nI_l (by omega)]
    refine s_varint s3 (by rw [List.length_append, List.length_append, List.length_append]; omega) (fun y4 f4 s4 => ?_)
    rw [uL_lN (by omega)] at s4
    have hL4 := f4.lm (f3.lm hL2)
    have hR4 := f4.rc (f3.rc hR2)
    have v4 := varB_len ((cs RS c fr to).length - (vs RS.flatten md (cs RS c fr to)).length)
    have fx4 : FrSh x y4 := Fg.trans f1 (Fg.trans f2 (Fg.trans f3 f4))
    have e4 : B ++ varB bl ++ varB pg ++ varB (cs RS c fr to).length ++ varB ((cs RS c fr to).length - (vs RS.flatten md (cs RS c fr to)).length) = B ++ (varB bl ++ (varB pg ++ (varB (cs RS c fr to).length ++ varB ((cs RS c fr to).length - (vs RS.flatten md (cs RS c fr to)).length)))) := by simp only [List.append_assoc]
    have l4 : (B ++ varB bl ++ varB pg ++ varB (cs RS c fr to).length ++ varB ((cs RS c fr to).length - (vs RS.flatten md (cs RS c fr to)).length)).length ≤ B.length + 40 := by
      rw [List.length_append, List.length_append, List.length_append, List.length_append]
      omega
    by_cases v0 : (vs RS.flatten md (cs RS c fr to)).length = 0
    · have e1 : mnI RS.flatten ty (vs RS.flatten md (cs RS c fr to)) = -1 := by unfold mnI; rw [if_pos v0]
      refine bn_t e1 (p y4 fx4 ?_)
      unfold chB bndB
      rw [if_pos (by rw [pvs_len]; exact v0), List.append_nil]
      rw [e4] at s4
      exact s4
    · have k1 := mnF_le (ty := ty) (P := pvs RS.flatten (vs RS.flatten md (cs RS c fr to))) ((vs RS.flatten md (cs RS c fr to)).length - 1)
      have k2 := mxF_le (ty := ty) (P := pvs RS.flatten (vs RS.flatten md (cs RS c fr to))) ((vs RS.flatten md (cs RS c fr to)).length - 1)
      have g1 := mem (mnF ty (pvs RS.flatten (vs RS.flatten md (cs RS c fr to))) ((vs RS.flatten md (cs RS c fr to)).length - 1)) d1 (by omega)
      have g2 := mem (mxF ty (pvs RS.flatten (vs RS.flatten md (cs RS c fr to))) ((vs RS.flatten md (cs RS c fr to)).length - 1)) d1 (by omega)
      have e1 : mnI RS.flatten ty (vs RS.flatten md (cs RS c fr to)) = nI ((vs RS.flatten md (cs RS c fr to)).getD (mnF ty (pvs RS.flatten (vs RS.flatten md (cs RS c fr to))) ((vs RS.flatten md (cs RS c fr to)).length - 1)) 0) := by unfold mnI; rw [if_neg v0]
      have e2 : mxI RS.flatten ty (vs RS.flatten md (cs RS c fr to)) = nI ((vs RS.flatten md (cs RS c fr to)).getD (mxF ty (pvs RS.flatten (vs RS.flatten md (cs RS c fr to))) ((vs RS.flatten md (cs RS c fr to)).length - 1)) 0) := by unfold mxI; rw [if_neg v0]
      rw [e1, e2]
      refine bn_f (ng _ g1.1) (s_putEntry hL4 hR4 hty4 g1.1 (hok _ g1.1 g1.2) s4 (by omega) (fun y5 f5 s5 => ?_))
      have tl := told_len (hok _ g1.1 g1.2)
      refine s_putEntry (f5.lm hL4) (f5.rc hR4) hty4 g2.1 (hok _ g2.1 g2.2) s5 (by rw [List.length_append]; omega) (fun y6 f6 s6 => p y6 (Fg.trans fx4 (Fg.trans f5 f6)) ?_)
      unfold chB bndB
      rw [if_neg (by rw [pvs_len]; exact v0), pvs_len, pvd_pvs (by omega), pvd_pvs (by omega)]
      rw [e4] at s6
      simp only [List.append_assoc] at s6 ⊢
      exact s6
