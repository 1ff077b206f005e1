/-! the same, of fields and groups -/
section Way
variable {T : Nat → Int32} {n : Nat} {F : List SFd} {P : PGr} {Q : EGr}
theorem strF_at {L M : List SNd} {c leaf m p r d : Nat} (h : Ext p L M) (hM : M.length < 2 ^ 31) (hp : p < L.length) (e : kd M p (ancN F m leaf) M.length = kd L p (ancN F m leaf) L.length) : strF F M c leaf m p r d = strF F L c leaf m p r d := by
  rw [strF_eq, strF_eq, e]
  split
  · rfl
  · refine goK_cg (fun k hk lv => ?_)
    have := kd_mem hk
    exact bodyK_ext h hM hp this.1 this.2
theorem vals_ok (hw : WfS F) (hn : n < 2 ^ 31) (hM : ∀ k g p L, L.length ≤ (P k g p L).2.2.length) (hG : okPQ T n F P Q) {k p f : Nat} {L : List SNd} (hk : k ≤ n) (hf : f < F.length) (h : (pVals T n F P k p f L).1 = -1) (hp : p < L.length) (h0 : kd L p f L.length = []) (hl : (pVals T n F P k p f L).2.2.length < 2 ^ 30) :
    (pVals T n F P k p f L).2.1 ≤ n ∧ Ext p L (pVals T n F P k p f L).2.2 ∧ (∀ f2, f2 < F.length → f2 ≠ f → kd (pVals T n F P k p f L).2.2 p f2 (pVals T n F P k p f L).2.2.length = kd L p f2 L.length) ∧
    ∀ r c, c < ncol F → colE c (eVals T n F P Q k p f L r) = if f ≤ lfC F c ∧ lfC F c < pB F f then strF F (pVals T n F P k p f L).2.2 c (lfC F c) (dM F (lfC F c) f) p r (dG F (fPa F f)) else [] := by
  have hs := @skip_le T n k hk
  have anc : ∀ c, c < ncol F → f ≤ lfC F c ∧ lfC F c < pB F f → ancN F (dM F (lfC F c) f) (lfC F c) = f := fun c hc z => (anc_of hw _ (lfC_ok hc).1 ((dsc_iff hw hf (lfC_ok hc).1).mpr z)).1
  by_cases c2 : fKd F f = 2
  · have e1 : pVals T n F P k p f L = if skip T n k < n ∧ T (skip T n k) = 91 then
      (if skip T n (skip T n k + 1) < n ∧ T (skip T n (skip T n k + 1)) = 93 then (-1, skip T n (skip T n k + 1) + 1, L) else pRow T n F P p f (n + 1) (skip T n k + 1) L)
      else (nI (skip T n k), skip T n k, L) := by unfold pVals; rw [if_pos c2]
    have e2 : ∀ r, eVals T n F P Q k p f L r = if skip T n (skip T n k + 1) < n ∧ T (skip T n (skip T n k + 1)) = 93 then misE F f (pB F f) r (fPa F f) else eRow T n F P Q p f (n + 1) (skip T n k + 1) L r := fun r => by unfold eVals; rw [if_pos c2]
    by_cases c : skip T n k < n ∧ T (skip T n k) = 91
    · rw [if_pos c] at e1
      by_cases c3 : skip T n (skip T n k + 1) < n ∧ T (skip T n (skip T n k + 1)) = 93
      · rw [if_pos c3] at e1
        rw [e1]
        refine ⟨c3.1, Ext.refl _ _, fun _ _ _ => rfl, fun r c hc => ?_⟩
        rw [e2 r, if_pos c3, colE_mis hc]
        split
        · rename_i z
          show _ = strF F L c (lfC F c) _ p r _
          rw [strF_eq, anc c hc z, if_pos h0]
        · rfl
      · rw [if_neg c3] at e1
        rw [e1] at h hl ⊢
        obtain ⟨r1, r2, ks, r3, r4, r5, r6⟩ := row_ok (Q := Q) hw hn hM hG hf (n + 1) (skip T n k + 1) L c.1 h hp hl
        refine ⟨r1, r2, fun f2 hf2 ne => by rw [r5 f2 hf2, if_neg ne, List.append_nil], fun r c hc => ?_⟩
        rw [e2 r, if_neg c3, r6 r c hc]
        split
        · rename_i z
          rw [strF_eq, anc c hc z, r5 f hf, if_pos rfl, h0, List.nil_append, if_neg r3]
        · rfl
    · rw [if_neg c] at e1
      rw [e1] at h
      exact absurd h (nI_nm1 (by omega))
  · have e1 : pVals T n F P k p f L = pVal T n F P k p f L := by unfold pVals; rw [if_neg c2]
    have e2 : ∀ r, eVals T n F P Q k p f L r = eVal T n F P Q k p f L r := fun r => by unfold eVals; rw [if_neg c2]
    rw [e1] at h hl ⊢
    obtain ⟨v1, v2, v3, v4, v5⟩ := val_ok (Q := Q) hw hn hG hk hf h hp hl
    refine ⟨v1, v2, fun f2 hf2 ne => by rw [v4 f2 hf2, if_neg ne, List.append_nil], fun r c hc => ?_⟩
    rw [e2 r, v5 r c hc]
    split
    · rename_i z
      rw [strF_eq, anc c hc z, v4 f hf, if_pos rfl, h0, List.nil_append, if_neg (by simp)]
      show _ = _ ++ []
      rw [List.append_nil]
    · rfl
theorem fc_kid {g : Int32} {fr f h : Nat} (hw : WfS F) (hv : frV F g fr) (hf : f < F.length) (e : fPa F f = g) (h1 : f ≤ h) (h2 : h < pB F f) (h3 : fcO F g fr ≤ h) : fr ≤ f := by
  have hF := hw.1
  rcases hv with rfl | ⟨f0, rfl, f1, f2⟩
  · exact Nat.zero_le _
  · unfold fcO at h3
    rw [if_neg (by omega), Nat.add_sub_cancel] at h3
    rcases Nat.lt_or_ge f0 f with c | c
    · exact c
    · exfalso
      by_cases z : f = f0
      · subst z; omega
      · have g0 := pB_gt hw f1
        obtain ⟨u, u1, u2, u3⟩ := dsc_pa hw f1 ((dsc_iff hw hf f1).mpr ⟨c, by omega⟩) (by omega)
        have := dsc_le hw (by omega) u3
        rw [f2, ← e] at u2
        rcases hw.2.2.1.2 f hf with w | ⟨v, v1, w⟩
        · rw [w] at u2; exact absurd u2.symm (nI_nm1 (by omega))
        · rw [w, nI_eq (by omega) (by omega)] at u2; omega
/-- where the rest of a group's fields lack -/
theorem lack_ok {L : List SNd} {g : Int32} {p fr r c : Nat} (hw : WfS F) (hg : gOk F.length g) (hv : frV F g fr) (h0 : ∀ f, f < F.length → fPa F f = g → fr ≤ f → kd L p f L.length = []) (hc : c < ncol F) : colE c (misE F (fcO F g fr) (pG F g) r g) = if fcO F g fr ≤ lfC F c ∧ lfC F c < pG F g then strF F L c (lfC F c) (upS wOne (fPa F) (nI (lfC F c)) - 1 - upS wOne (fPa F) g) p r (dG F g) else [] := by
  rw [colE_mis hc]
  split
  · rename_i z
    have hfG : fG g ≤ fcO F g fr := by
      unfold fcO
      rcases hv with rfl | ⟨f0, rfl, f1, f2⟩
      · rw [if_pos rfl]; exact Nat.le_refl _
      · rw [if_neg (by omega), Nat.add_sub_cancel]
        have := (kid_in hw hg f1 f2).1
        have := pB_gt hw f1
        omega
    obtain ⟨f, f1, f2, f3, f4, f5⟩ := way_kid hw hg (lfC_ok hc).1 (by omega) z.2
    rw [strF_eq, f5, if_pos (h0 f f1 f2 (fc_kid hw hv f1 f2 f3 f4 z.1))]
  · rfl
theorem fld_ok (hw : WfS F) (hn : n < 2 ^ 31) (hM : ∀ k g p L, L.length ≤ (P k g p L).2.2.length) (hG : okPQ T n F P Q) {g : Int32} {p : Nat} (hg : gOk F.length g) : ∀ (d k fr : Nat) (b : Bool) (L : List SNd), k ≤ n → (pFld T n F P g p d k fr b L).1 = -1 → p < L.length → frV F g fr → (∀ f, f < F.length → fPa F f = g → fr ≤ f → kd L p f L.length = []) → (pFld T n F P g p d k fr b L).2.2.length < 2 ^ 30 →
    (pFld T n F P g p d k fr b L).2.1 ≤ n ∧ Ext p L (pFld T n F P g p d k fr b L).2.2 ∧ (∀ f, f < F.length → fPa F f = g → f < fr → kd (pFld T n F P g p d k fr b L).2.2 p f (pFld T n F P g p d k fr b L).2.2.length = kd L p f L.length) ∧
    ∀ r c, c < ncol F → colE c (eFld T n F P Q g p d k fr b L r) = if fcO F g fr ≤ lfC F c ∧ lfC F c < pG F g then strF F (pFld T n F P g p d k fr b L).2.2 c (lfC F c) (upS wOne (fPa F) (nI (lfC F c)) - 1 - upS wOne (fPa F) g) p r (dG F g) else [] := by
  have hF := hw.1
  intro d
  induction d with
  | zero => intro k fr b L hk h; exact absurd h (by show ¬ (-3 : Int32) = -1; decide)
  | succ d ih =>
    intro k fr b L hk h hp hv h0 hl
    have hs := @skip_le T n k hk
    have nn : ∀ j, j ≤ n → ¬ nI j = -1 := fun j hj => nI_nm1 (by omega)
    have endE : ∀ (s fr : Nat) (L : List SNd), s ≤ n → (pEnd F g s fr L).1 = -1 → pEnd F g s fr L = (-1, s + 1, L) := by
      intro s fr L hs z
      unfold pEnd at z ⊢
      split at z
      · exact absurd z (nn s hs)
      · rename_i w; rw [if_neg w]
    by_cases c1 : b = true ∧ skip T n k < n ∧ T (skip T n k) = 125
    · obtain ⟨rfl, c1⟩ := c1
      rw [pFld_end c1] at h hl ⊢
      have e := endE _ _ _ hs h
      rw [e]
      refine ⟨c1.1, Ext.refl _ _, fun _ _ _ _ => rfl, fun r c hc => ?_⟩
      rw [eFld_end c1]
      exact lack_ok hw hg hv h0 hc
    · simp only [pFld] at h hl ⊢
      simp only [eFld]
      rw [if_neg c1] at h hl ⊢
      by_cases c2 : wln T n (skip T n k) = 0 ∨ fdF F g (rowL T (skip T n k) (wln T n (skip T n k))) = -1 ∨ (fdF F g (rowL T (skip T n k) (wln T n (skip T n k)))).toNatClampNeg < fr ∨ missF F g fr (fdF F g (rowL T (skip T n k) (wln T n (skip T n k)))).toNatClampNeg = true
      · rw [if_pos c2] at h; exact absurd h (nn _ hs)
      rw [if_neg c2] at h hl ⊢
      have hwl := @wln_le T n (skip T n k) hs
      have hs2 := @skip_le T n (skip T n k + wln T n (skip T n k)) hwl
      by_cases c3 : ¬ (skip T n (skip T n k + wln T n (skip T n k)) < n ∧ T (skip T n (skip T n k + wln T n (skip T n k))) = 58)
      · rw [if_pos c3] at h; exact absurd h (nn _ hs2)
      rw [if_neg c3] at h hl ⊢
      rcases (fnd_is : fdF F g (rowL T (skip T n k) (wln T n (skip T n k))) = -1 ∨ _) with z | ⟨f, f1, f2, f3⟩
      · exact absurd (Or.inr (Or.inl z)) c2
      have f3 := of_decide_eq_true f3
      have f2 : fdF F g (rowL T (skip T n k) (wln T n (skip T n k))) = nI f := f2
      rw [f2, nI_clamp (by omega)] at h hl c2 ⊢
      have hfr : fr ≤ f := by
        rcases Nat.lt_or_ge f fr with z | z
        · exact absurd (Or.inr (Or.inr (Or.inl z))) c2
        · exact z
      have hk3 : skip T n (skip T n k + wln T n (skip T n k)) + 1 ≤ n := by
        by_cases z : skip T n (skip T n k + wln T n (skip T n k)) < n
        · exact z
        · exact absurd (fun w => z w.1) c3
      generalize skip T n (skip T n k + wln T n (skip T n k)) + 1 = k3 at *
      by_cases c4 : ¬ (pVals T n F P k3 p f L).1 = -1
      · rw [if_pos c4] at h; exact absurd h c4
      have c4 : (pVals T n F P k3 p f L).1 = -1 := Classical.not_not.mp c4
      have V := fun hl => vals_ok (Q := Q) hw hn hM hG hk3 f1 c4 hp (h0 f f1 f3.1 hfr) hl
      have hv2 : frV F g (f + 1) := Or.inr ⟨f, rfl, f1, f3.1⟩
      have efc : fcO F g (f + 1) = pB F f := by unfold fcO; rw [if_neg (by omega)]; rfl
      have kf := kid_in hw hg f1 f3.1
      have hfc : fcO F g fr ≤ f := (fcO_iff hw hg hv f1 f3.1).mpr hfr
      have hpbG : pB F f ≤ pG F g := by rw [← efc]; exact (fcO_le hw hg hv2).2
      have hfpb := pB_gt hw f1
      have hfG : fG g ≤ fcO F g fr := by
        unfold fcO
        rcases hv with rfl | ⟨f0, rfl, g1, g2⟩
        · rw [if_pos rfl]; exact Nat.le_refl _
        · rw [if_neg (by omega), Nat.add_sub_cancel]
          have := (kid_in hw hg g1 g2).1
          have := pB_gt hw g1
          omega
      have hvl := pVals_mono hM (T := T) (n := n) (F := F) (k := k3) (p := p) (f := f) (L := L)
      rw [if_neg (fun z => z c4)] at h hl ⊢
      generalize pVals T n F P k3 p f L = v at *
      -- with the rest of the fields
      have main : ∀ (M : List SNd) (rest : Nat → List SEn), M.length < 2 ^ 30 → v.2.2.length < 2 ^ 30 → Ext p v.2.2 M → (∀ f', f' < F.length → fPa F f' = g → f' < f + 1 → kd M p f' M.length = kd v.2.2 p f' v.2.2.length) → (∀ r c, c < ncol F → colE c (rest r) = if fcO F g (f + 1) ≤ lfC F c ∧ lfC F c < pG F g then strF F M c (lfC F c) (upS wOne (fPa F) (nI (lfC F c)) - 1 - upS wOne (fPa F) g) p r (dG F g) else []) →
          Ext p L M ∧ (∀ f', f' < F.length → fPa F f' = g → f' < fr → kd M p f' M.length = kd L p f' L.length) ∧ ∀ r c, c < ncol F → colE c (misE F (fcO F g fr) f r g ++ eVals T n F P Q k3 p f L r ++ rest r) = if fcO F g fr ≤ lfC F c ∧ lfC F c < pG F g then strF F M c (lfC F c) (upS wOne (fPa F) (nI (lfC F c)) - 1 - upS wOne (fPa F) g) p r (dG F g) else [] := by
        intro M rest m1 m2 m3 m4 m5
        obtain ⟨v1, v2, v3, v4⟩ := V m2
        have keep : ∀ f', f' < F.length → fPa F f' = g → f' < f → kd M p f' M.length = kd L p f' L.length := fun f' a b c => by rw [m4 f' a b (by omega), v3 f' a (by omega)]
        refine ⟨v2.trans m3, fun f' a b c => keep f' a b (by omega), fun r c hc => ?_⟩
        rw [colE_app, colE_app, colE_mis hc, v4 r c hc, m5 r c hc, efc, f3.1]
        have hlf := lfC_ok hc
        rcases Nat.lt_or_ge (lfC F c) (fcO F g fr) with z | z
        · rw [if_neg (by omega), if_neg (by omega), if_neg (by omega), if_neg (by omega)]; rfl
        rcases Nat.lt_or_ge (lfC F c) f with z2 | z2
        · rw [if_pos ⟨z, z2⟩, if_neg (by omega), if_neg (by omega), if_pos ⟨z, by omega⟩, List.append_nil, List.append_nil]
          obtain ⟨q, q1, q2, q3, q4, q5⟩ := way_kid hw hg hlf.1 (by omega) (by omega)
          have hq := fc_kid hw hv q1 q2 q3 q4 z
          rw [strF_eq, q5, keep q q1 q2 (by omega), if_pos (h0 q q1 q2 hq)]
        rcases Nat.lt_or_ge (lfC F c) (pB F f) with z3 | z3
        · rw [if_neg (by omega), if_pos ⟨z2, z3⟩, if_neg (by omega), if_pos ⟨z, by omega⟩, List.append_nil, List.nil_append]
          obtain ⟨a1, a2⟩ := anc_of hw _ hlf.1 ((dsc_iff hw f1 hlf.1).mpr ⟨z2, z3⟩)
          have u : upS wOne (fPa F) (nI f) = 1 + upS wOne (fPa F) g := by rw [upS_at hw.2.2.1 f1, f3.1]; rfl
          have ed : upS wOne (fPa F) (nI (lfC F c)) - 1 - upS wOne (fPa F) g = dM F (lfC F c) f := by unfold dM; omega
          rw [ed]
          exact (strF_at m3 (by omega) (by omega) (by rw [a1]; exact m4 f f1 f3.1 (by omega))).symm
        · rw [if_neg (by omega), if_neg (by omega), List.nil_append, List.nil_append]
          rcases Nat.lt_or_ge (lfC F c) (pG F g) with z4 | z4
          · rw [if_pos ⟨z3, z4⟩, if_pos ⟨z, z4⟩]
          · rw [if_neg (by omega), if_neg (by omega)]
      have vle : ∀ hl : v.2.2.length < 2 ^ 30, v.2.1 ≤ n := fun hl => (V hl).1
      have none2 : ∀ hl : v.2.2.length < 2 ^ 30, ∀ f', f' < F.length → fPa F f' = g → f + 1 ≤ f' → kd v.2.2 p f' v.2.2.length = [] := fun hl f' a b c => by rw [(V hl).2.2.1 f' a (by omega)]; exact h0 f' a b (by omega)
      by_cases c5 : skip T n v.2.1 < n ∧ T (skip T n v.2.1) = 125
      · rw [if_pos c5] at h hl ⊢
        have e := endE _ _ _ (by omega) h
        rw [e] at hl ⊢
        have m := main v.2.2 (fun r => misE F (pB F f) (pG F g) r g) hl hl (Ext.refl _ _) (fun _ _ _ _ => rfl) (fun r c hc => by rw [← efc]; exact lack_ok hw hg hv2 (none2 hl) hc)
        refine ⟨c5.1, m.1, m.2.1, fun r c hc => ?_⟩
        rw [if_neg c1, if_neg (fun z => by rw [c5.2] at z; exact absurd z.2 (by decide))]
        exact m.2.2 r c hc
      rw [if_neg c5] at h hl ⊢
      by_cases c6 : skip T n v.2.1 < n ∧ T (skip T n v.2.1) = 44
      · rw [if_pos c6] at h hl ⊢
        have mono := pFld_mono hM (T := T) (n := n) (F := F) (g := g) (p := p) d (skip T n v.2.1 + 1) (f + 1) false v.2.2
        have hl2 : v.2.2.length < 2 ^ 30 := by omega
        obtain ⟨i1, i2, i3, i4⟩ := ih (skip T n v.2.1 + 1) (f + 1) false v.2.2 c6.1 h (by omega) hv2 (none2 hl2) hl
        have m := main _ (fun r => eFld T n F P Q g p d (skip T n v.2.1 + 1) (f + 1) false v.2.2 r) hl hl2 i2 i3 i4
        refine ⟨i1, m.1, m.2.1, fun r c hc => ?_⟩
        rw [if_neg c1, if_pos c6]
        exact m.2.2 r c hc
      · rw [if_neg c6] at h hl
        have := @skip_le T n v.2.1 (vle hl)
        exact absurd h (nn _ this)
end Way
theorem gIs.fr {F : List SFd} {g : Int32} {L : List SNd} {p : Nat} (h : ∀ f, f < F.length → fPa F f = g → kd L p f L.length = []) : ∀ f, f < F.length → fPa F f = g → 0 ≤ f → kd L p f L.length = [] := fun f a b _ => h f a b
theorem grp_ok {T : Nat → Int32} {n : Nat} {F : List SFd} (hw : WfS F) (hn : n < 2 ^ 31) : ∀ D, okPQ T n F (pGrp T n F D) (eGrp T n F D) := by
  intro D
  induction D with
  | zero => intro k g p L hk hg h; exact absurd h (by show ¬ (-3 : Int32) = -1; decide)
  | succ D ih =>
    intro k g p L hk hg h hp h0 hl
    have hs := @skip_le T n k hk
    have e1 : pGrp T n F (D + 1) k g p L = if skip T n k < n ∧ T (skip T n k) = 123 then pFld T n F (pGrp T n F D) g p 200 (skip T n k + 1) 0 true L else (nI (skip T n k), skip T n k, L) := rfl
    have e2 : ∀ r, eGrp T n F (D + 1) k g p L r = eFld T n F (pGrp T n F D) (eGrp T n F D) g p 200 (skip T n k + 1) 0 true L r := fun r => rfl
    by_cases c : skip T n k < n ∧ T (skip T n k) = 123
    · rw [if_pos c] at e1
      rw [e1] at h hl ⊢
      obtain ⟨i1, i2, i3, i4⟩ := fld_ok (Q := eGrp T n F D) hw hn (pGrp_mono D) ih hg.ok 200 (skip T n k + 1) 0 true L c.1 h hp (Or.inl rfl) (fun f a b _ => h0 f a b) hl
      refine ⟨i1, i2, fun r c hc => ?_⟩
      rw [e2 r, i4 r c hc]
      rfl
    · rw [if_neg c] at e1
      rw [e1] at h
      exact absurd h (nI_nm1 (by omega))
/-- a record's entries, column by column -/
theorem rec_col {T : Nat → Int32} {n : Nat} {F : List SFd} (hw : WfS F) (hn : n < 2 ^ 31) (h : (pGrp T n F 18 0 (-1) 0 nd1).1 = -1) (hl : (pGrp T n F 18 0 (-1) 0 nd1).2.2.length < 2 ^ 30) {c : Nat} (hc : c < ncol F) : colE c (eGrp T n F 18 0 (-1) 0 nd1 0) = colS F (pGrp T n F 18 0 (-1) 0 nd1).2.2 c := by
  have g := (grp_ok hw hn 18 0 (-1) 0 nd1 (Nat.zero_le _) (Or.inl rfl) h (by decide) (fun f _ _ => kd_0 (by decide)) hl).2.2 0 c hc
  have hlf := lfC_ok hc
  rw [g, if_pos ⟨Nat.zero_le _, hlf.1⟩]
  unfold colS
  rw [upS_neg]
  rfl
