/-! a row is gathered, model -/
theorem gASL {x : St} {o : Nat} {i : Int32} {v : Int64} : fA (setL x o i v) = fA x := rfl
section
variable {x y : St} {F : List SFd} {G : List Nat} {CK : List (List PgW)} {Pl : List PV} {s g r : Nat} {Q : Qy} {A : List GrT}
theorem RdM.cl (H : RdM x F G CK Pl) (f : FrCl x y) : RdM y F G CK Pl := H.run (f.mono (fun _ _ z => ⟨z.1, by omega⟩) (fun _ _ z => z) (fun _ _ z => z) (fun a z => ⟨by omega, by omega⟩) (fun _ z => Or.inl z))
theorem KqM.cl (h : KqM x s Q) (f : FrCl x y) : KqM y s Q := h.run (f.mono (fun _ _ z => ⟨z.1, by omega⟩) (fun _ _ z => z) (fun _ _ z => z) (fun a z => ⟨by omega, by omega⟩) (fun _ z => Or.inl z))
/-- one value more for an item -/
theorem s_c76 {post : St → Prop} {R : Int32 → Int32 → Int32 → St → Prop} {i a : Nat} {it : QIt} {L L' : List Nat} (H : RdM y F G CK Pl) (hw : WfS F) (hg : g < 500) (hi : i < 16) {f : Nat} (hf : colF F f) (ef : it.2.1 = nI f) (ha : a < Pl.length) (oa : okVv (tOf F it.2.1) (pvd Pl a)) (h : GiA (fA y 107) (fA y 108) (fL y 113) F G CK Pl (16 * g + i) it L) (hV : itV F G CK it L' = itV F G CK it L ++ [pvd Pl a])
    (p : ∀ z, FrCl y z → fI z 0 162 = fI y 0 162 → fA z 105 = fA y 105 → fA z 106 = fA y 106 → (∀ ix, ix ≠ 16 * g + i → fA z 107 ix = fA y 107 ix ∧ fA z 108 ix = fA y 108 ix ∧ fL z 113 ix = fL y 113 ix) → GiA (fA z 107) (fA z 108) (fL z 113) F G CK Pl (16 * g + i) it L' → j_Mod_collect_203 post R (nI g) (nI r) (nI i) it.1 (nI f) (nI a) z) : j_Mod_collect_76 post R (nI g) (nI r) (nI i) it.1 (nI f) (nI a) y := by
  have hF := hw.1
  have hL := H.1
  have hP := H.2.2.2.2.2.2.2.2.1
  obtain ⟨h7, h13, h8n, h8s⟩ := h
  have p5 := hP.2.2.1
  have ix8 : 16 * g + i < 8000 := by omega
  have vx : vp_in (nI (16 * g + i)) 8000 := vp_in_nI ix8 (by decide)
  obtain ⟨-, t4, tE⟩ := tOf_n hw hf
  rw [ef] at oa h8n h8s
  unfold j_Mod_collect_76
  refine bn_f (nI_nm1 (by omega)) (nm_r (e' := nI (16 * g + i)) (by show nI 16 * nI g + nI i = _; rw [nI_mul, nI_add]) ?_)
  generalize hix : 16 * g + i = ix at *
  rw [show fN y 107 = 8000 from hL 107]
  refine ⟨vx, vx, nm_r (e' := setA y 107 (nI ix) (nI ((itV F G CK it L).length + 1))) (by rw [rA_nI (by omega), h7, nI_1]) ⟨?_, ?_, ?_, nm_r (e' := setL (setA y 107 (nI ix) (nI ((itV F G CK it L).length + 1))) 113 (nI ix) (sumL (itV F G CK it L) + (pvd Pl a).1)) ?_ ?_⟩⟩
  · show vp_in _ (fN y 113)
    rw [show fN y 113 = 8000 from hL 113]; exact vx
  · show vp_in _ (fN y 54)
    rw [show fN y 54 = 50000 from hL 54]; exact vp_in_nI (by omega) (by decide)
  · show vp_in _ (fN y 113)
    rw [show fN y 113 = 8000 from hL 113]; exact vx
  · show setL _ 113 _ (rL y 113 (nI ix) + rL y 54 (nI a)) = _
    rw [rL_nI (by omega), rL_nI (by omega), h13, (hP.2.2.2.2 a ha).1]
  have fz := FrCl.two (x := y) (nI ix) (nI ((itV F G CK it L).length + 1)) (nI ix) (sumL (itV F G CK it L) + (pvd Pl a).1)
  generalize hz : setL (setA y 107 (nI ix) (nI ((itV F G CK it L).length + 1))) 113 (nI ix) (sumL (itV F G CK it L) + (pvd Pl a).1) = z at *
  have z108 : fA z 108 = fA y 108 := by
    rw [← hz, gASL, gA_ne (by decide)]
  have z105 : fA z 105 = fA y 105 := by
    rw [← hz, gASL, gA_ne (by decide)]
  have z106 : fA z 106 = fA y 106 := by
    rw [← hz, gASL, gA_ne (by decide)]
  have zo : ∀ j, j ≠ ix → fA z 107 j = fA y 107 j ∧ fL z 113 j = fL y 113 j := by
    intro j hj
    rw [← hz]
    refine ⟨?_, gL_off (by omega) hj⟩
    rw [gASL, gA_off (by omega) hj]
  have z7 : fA z 107 ix = nI (itV F G CK it L').length := by
    rw [← hz, hV, List.length_append, gASL, gA_on (by omega)]
    rfl
  have z13 : fL z 113 ix = sumL (itV F G CK it L') := by
    rw [← hz, hV, sumL_add]
    exact gL_on (by omega)
  have z162 : fI z 0 162 = fI y 0 162 := by rw [← hz]; rfl
  have Hz := H.cl fz
  have eB : bst (tOf F (nI f)) (decide (it.1 = 4)) (itV F G CK it L') = bst1 (tOf F (nI f)) (decide (it.1 = 4)) (bst (tOf F (nI f)) (decide (it.1 = 4)) (itV F G CK it L)) (pvd Pl a) := by rw [hV, bst_add]
  have keep : bst (tOf F (nI f)) (decide (it.1 = 4)) (itV F G CK it L') = bst (tOf F (nI f)) (decide (it.1 = 4)) (itV F G CK it L) → j_Mod_collect_203 post R (nI g) (nI r) (nI i) it.1 (nI f) (nI a) z := by
    intro e
    refine p z fz z162 z105 z106 (fun j hj => ⟨(zo j hj).1, by rw [z108], (zo j hj).2⟩) ⟨z7, z13, ?_⟩
    rw [ef, e, z108]
    exact ⟨h8n, h8s⟩
  have take : bst (tOf F (nI f)) (decide (it.1 = 4)) (itV F G CK it L') = some (pvd Pl a) → ∀ l8, j_Mod_collect_194 post R (nI g) (nI r) (nI i) it.1 (nI f) (nI a) (nI ix) l8 z := by
    intro e l8
    unfold j_Mod_collect_194
    rw [show fN z 108 = 8000 from Hz.1 108]
    refine ⟨vx, nm_e ?_⟩
    refine p _ (fz.trans (Fg.a (by decide))) z162 (by rw [gA_ne (by decide), z105]) (by rw [gA_ne (by decide), z106]) (fun j hj => ⟨by rw [gA_ne (by decide)]; exact (zo j hj).1, by rw [gA_off (by omega) hj, z108], (zo j hj).2⟩) ⟨by rw [gA_ne (by decide)]; exact z7, z13, ?_⟩
    rw [ef, e, gA_on (by omega)]
    refine And.intro (fun q => nomatch q) (fun q hq => ?_)
    injection hq with hq
    rw [← hq]
    exact ⟨oa, a, ha, rfl, rfl⟩
  rw [show fN z 108 = 8000 from Hz.1 108, rA_nI (o := 108) (by omega), z108]
  refine ⟨vx, ?_⟩
  generalize hb : bst (tOf F (nI f)) (decide (it.1 = 4)) (itV F G CK it L) = b at *
  match b, h8n, h8s, eB, keep with
  | none, h8n, _, eB, _ =>
    rw [h8n rfl]
    refine bn_t rfl ?_
    unfold j_Mod_collect_162
    rw [show fN z 108 = 8000 from Hz.1 108, rA_nI (o := 108) (by omega), z108, h8n rfl]
    exact ⟨vx, br_t rfl (take eB _)⟩
  | some w, _, h8s, eB, keep =>
    obtain ⟨ow, d, hd, ed, pd⟩ := h8s w rfl
    rw [ed]
    refine bn_f (nI_nm1 (by omega)) ?_
    rw [k_plM, show (128 : Int32) * 1 + nI f = nI (128 + f) from nI_add 128 f]
    have e4 : rA z 4 (nI (128 + f)) = nI (tOf F (nI f)) := by
      rw [rA_nI (by have := hf.1; omega)]
      exact ((Hz.2.1.2.2.1 f hf.1).2.1).trans tE
    rw [e4, show fN z 4 = 384 from Hz.1 4, show fN z 108 = 8000 from Hz.1 108, rA_nI (o := 108) (by omega), z108, ed]
    refine ⟨vp_in_nI (by have := hf.1; omega) (by decide), vx, s_compare Hz.1 Hz.2.2.2.2.2.2.2.2.1 ha hd t4 oa (by rw [pd]; exact ow) ?_⟩
    rw [pd]
    unfold j_Mod_collect_162
    rw [show fN z 108 = 8000 from Hz.1 108, rA_nI (o := 108) (by omega), z108, ed]
    refine ⟨vx, br_f (nI_nm1 (by omega)) ?_⟩
    have eB2 : bst (tOf F (nI f)) (decide (it.1 = 4)) (itV F G CK it L') = if decide (it.1 = 4) = true then (if cmpV (tOf F (nI f)) (pvd Pl a) w < 0 then some (pvd Pl a) else some w) else (if 0 < cmpV (tOf F (nI f)) (pvd Pl a) w then some (pvd Pl a) else some w) := eB
    by_cases q : it.1 = 4
    · rw [if_pos (decide_eq_true q)] at eB2
      refine bn_t q ?_
      by_cases u : cmpV (tOf F (nI f)) (pvd Pl a) w < 0
      · rw [if_pos u] at eB2
        exact br_f (i_nge u) (take eB2 _)
      · rw [if_neg u] at eB2
        exact br_t (i_ge u) (keep eB2)
    · rw [if_neg (fun z => q (of_decide_eq_true z))] at eB2
      refine bn_f q ?_
      by_cases u : 0 < cmpV (tOf F (nI f)) (pvd Pl a) w
      · rw [if_pos u] at eB2
        exact br_f (i_nle u) (take eB2 _)
      · rw [if_neg u] at eB2
        exact br_t (i_le u) (keep eB2)
end
