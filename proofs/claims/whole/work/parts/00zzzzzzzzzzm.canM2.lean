/-! what can be of a list, model -/
section
variable {x : St} {Pl : List PV} {s : Nat} {Q : Qy} {F : List SFd}
theorem s_mayBe {post : Int32 → St → Prop} {ty c i : Nat} {t : Tl} (hL : LM x) (h : PoM x Pl) (hs : s < 3) (hQ : KqM x s Q) (hi : i < Q.2.2.2.length) (hty : (Q.2.2.2.getD i lt0).1 = 3 ↔ ty = 3) (vb : okVv ty (lvl (Q.2.2.2.getD i lt0))) (hc : c < 64) (hT : TdM x ty Pl c t) (hsome : t.2.1 < t.1) (p : post (if canC ty 0 t (lvl (Q.2.2.2.getD i lt0)) = true then 1 else 0) x) : wp_Mod_mayBe post (nI c) (nI (64 * s + i)) x := by
  obtain ⟨-, -, -, -, t102, tW, tB, w, w1, w2, w3⟩ := hT
  obtain ⟨a, b, ha, hb, e99, e100, ea, eb, oa, ob⟩ := tB hsome
  have ii : vp_in (nI c) 64 := vp_in_nI hc (by decide)
  have hPl := h.2.2.1
  unfold canC at p
  have lp : ∀ b0 : Bool, (t.2.2.2.2 ≠ [] → b0 = false) → (t.2.2.2.2 = [] → post (if b0 = true then 1 else 0) x) → ∃ n, wl_Mod_mayBe_46 post n (nI c) (nI (64 * s + i)) (if b0 = true then 1 else 0) 0 x := by
    intro b0 hb0 pb
    refine lp_Mod_mayBe_46 (fun b1 b2 b3 b4 y => nI c = b1 ∧ nI (64 * s + i) = b2 ∧ x = y ∧ ∃ k, k ≤ t.2.2.2.2.length ∧ nI k = b4 ∧ b3 = (if (b0 || (t.2.2.2.2.take k).any (fun v => hld 0 (cmpV ty v (lvl (Q.2.2.2.getD i lt0))))) = true then 1 else 0)) (fun _ _ _ b4 _ => t.2.2.2.2.length - b4.toNatClampNeg) ?_ _ _ _ _ _ ⟨rfl, rfl, rfl, 0, Nat.zero_le _, rfl, by rw [List.take_zero]; show _ = if (b0 || false) = true then 1 else 0; rw [Bool.or_false]⟩
    rintro R b1 b2 b3 b4 y ⟨rfl, rfl, rfl, k, hk, rfl, rfl⟩ ih
    unfold j_Mod_mayBe_46 j_Mod_mayBe_78
    rw [show fN x 102 = 64 from hL 102, rA_nI (by omega), t102]
    refine ⟨ii, ?_⟩
    by_cases ck : k < t.2.2.2.2.length
    · have wne : t.2.2.2.2 ≠ [] := fun z => by rw [z] at ck; exact absurd ck (Nat.not_lt_zero _)
      rw [if_neg wne] at p
      have e0 := hb0 wne
      subst e0
      refine br_f (by (first | omega | (simp (disch := omega) only [Int32.le_iff_toInt_le, Int32.lt_iff_toInt_lt, z_eq, z_in, nI_toInt, z_cl, z_m1, z_sg, z_255, Int32.reduceToInt] <;> omega) | (simp only [Int32.le_iff_toInt_le, Int32.lt_iff_toInt_lt, z_eq, z_in, z_add, z_sub, z_mul, z_neg, z_nI, z_cl, z_sg, z_255, z_lit, Int32.reduceToInt] <;> omega))) ?_
      rw [Bool.false_or]
      have nx : ∀ (v l3 : Int32), v = (if ((t.2.2.2.2.take k).any (fun v => hld 0 (cmpV ty v (lvl (Q.2.2.2.getD i lt0)))) || hld 0 (cmpV ty (pvd t.2.2.2.2 k) (lvl (Q.2.2.2.getD i lt0)))) = true then 1 else 0) → j_Mod_mayBe_83 post R (nI c) (nI (64 * s + i)) l3 (nI k) v x := by
        intro v l3 ev
        unfold j_Mod_mayBe_83
        rw [nI_1]
        refine ih _ _ _ _ _ ⟨rfl, rfl, rfl, k + 1, ck, rfl, by rw [any_tk ck, Bool.false_or]; exact ev⟩ ?_
        rw [nI_clamp (by omega), nI_clamp (by omega)]
        omega
      by_cases cl : (t.2.2.2.2.take k).any (fun v => hld 0 (cmpV ty v (lvl (Q.2.2.2.getD i lt0)))) = true
      · rw [if_pos cl]
        exact bn_f (by decide) (nx 1 _ (by rw [cl, Bool.true_or, if_pos rfl]))
      · have clf : (t.2.2.2.2.take k).any (fun v => hld 0 (cmpV ty v (lvl (Q.2.2.2.getD i lt0)))) = false := by cases z : (t.2.2.2.2.take k).any (fun v => hld 0 (cmpV ty v (lvl (Q.2.2.2.getD i lt0)))); rfl; exact absurd z cl
        rw [if_neg cl]
        refine bn_t rfl ?_
        rw [show fN x 101 = 64 from hL 101, rA_nI (by omega), w1 wne, nI_add]
        refine ⟨ii, s_agLit hL h hs hQ (by omega) hi hty (by rw [(w3 k ck).1]; exact (w3 k ck).2) vb ?_⟩
        rw [(w3 k ck).1]
        by_cases d : cmpV ty (pvd t.2.2.2.2 k) (lvl (Q.2.2.2.getD i lt0)) = 0
        · exact bn_t d (nx 1 _ (by rw [clf, hld0, decide_eq_true d]; rfl))
        · exact bn_f d (nx 0 _ (by rw [clf, hld0, decide_eq_false d]; rfl))
    · have ek : k = t.2.2.2.2.length := by omega
      refine br_t (by (first | omega | (simp (disch := omega) only [Int32.le_iff_toInt_le, Int32.lt_iff_toInt_lt, z_eq, z_in, nI_toInt, z_cl, z_m1, z_sg, z_255, Int32.reduceToInt] <;> omega) | (simp only [Int32.le_iff_toInt_le, Int32.lt_iff_toInt_lt, z_eq, z_in, z_add, z_sub, z_mul, z_neg, z_nI, z_cl, z_sg, z_255, z_lit, Int32.reduceToInt] <;> omega))) ⟨nrw, ?_⟩
      rw [ek, List.take_length]
      by_cases we : t.2.2.2.2 = []
      · rw [we]
        show post (if (b0 || false) = true then 1 else 0) x
        rw [Bool.or_false]
        exact pb we
      · rw [if_neg we] at p
        rw [hb0 we, Bool.false_or]
        exact p
  unfold wp_Mod_mayBe j_Mod_mayBe_41 j_Mod_mayBe_42
  rw [show fN x 102 = 64 from hL 102, rA_nI (by omega), t102]
  refine ⟨ii, ?_⟩
  by_cases we : t.2.2.2.2 = []
  · rw [if_pos we, cHl_0] at p
    have L0 : (cmpV ty t.2.2.1 (lvl (Q.2.2.2.getD i lt0)) ≤ 0 ∧ 0 ≤ cmpV ty t.2.2.2.1 (lvl (Q.2.2.2.getD i lt0)) → False) → ∃ n, wl_Mod_mayBe_46 post n (nI c) (nI (64 * s + i)) 0 0 x := by
      intro z
      refine lp false (fun _ => rfl) (fun _ => ?_)
      rw [if_neg (fun q => by rw [Bool.and_eq_true] at q; exact z ⟨of_decide_eq_true q.1, of_decide_eq_true q.2⟩)] at p
      exact p
    refine bn_t (by rw [we]; rfl) ?_
    rw [show fN x 99 = 64 from hL 99, rA_nI (by omega), e99]
    refine ⟨ii, s_agLit hL h hs hQ ha hi hty (by rw [ea]; exact oa) vb ?_⟩
    rw [ea]
    by_cases c1 : 0 < cmpV ty t.2.2.1 (lvl (Q.2.2.2.getD i lt0))
    · exact br_t c1 (L0 (fun z => i_nle c1 z.1))
    · refine br_f c1 ?_
      rw [show fN x 100 = 64 from hL 100, rA_nI (by omega), e100]
      refine ⟨ii, s_agLit hL h hs hQ hb hi hty (by rw [eb]; exact ob) vb ?_⟩
      rw [eb]
      by_cases c2 : cmpV ty t.2.2.2.1 (lvl (Q.2.2.2.getD i lt0)) < 0
      · exact br_t c2 (L0 (fun z => i_nge c2 z.2))
      · refine br_f c2 (lp true (fun z => absurd we z) (fun _ => ?_))
        rw [if_pos (by rw [decide_eq_true (i_le c1), decide_eq_true (i_ge c2)]; rfl)] at p
        exact p
  · have : 0 < t.2.2.2.2.length := List.length_pos_iff.mpr we
    refine bn_f (fun z => ?_) (lp false (fun _ => rfl) (fun z => absurd z we))
    have := (nI_eq (b := 0) (by omega) (by decide)).mp z
    omega
theorem s_typeOfQ {post : Int32 → St → Prop} {f : Nat} (hL : LM x) (hw : WfS F) (hR : RepM x 1 F) (hf : colF F f) (p : post (fTy F f) x) : wp_Mod_typeOf post 1 (nI (ncol (F.take f))) x := by
  have hF := hw.1
  have hC := hw.2.1
  have hc := (col_ok hw hf).1
  have hf1 := hf.1
  unfold wp_Mod_typeOf
  rw [show (64 : Int32) * 1 + nI (ncol (F.take f)) = nI (64 + ncol (F.take f)) from by rw [show (64 : Int32) * 1 = nI 64 from rfl, nI_add], show fN x 11 = 192 from hL 11, rA_nI (by omega)]
  have e11 : fA x 11 (64 + ncol (F.take f)) = nI f := hR.2.2.2 f hf.1 hf.2.1
  rw [e11, k_plM, pl1, show fN x 4 = 384 from hL 4, rA_nI (by omega), (hR.2.2.1 f hf1).2.1]
  exact ⟨vp_in_nI (by omega) (by decide), vp_in_nI (by omega) (by decide), p⟩
end
