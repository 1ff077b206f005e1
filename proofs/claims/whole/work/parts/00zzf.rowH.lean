/-! how a record's entries of a column go: r, then further ones -/
def Hd (r : Nat) (l : List SEn) : Prop := ∃ e l', l = e :: l' ∧ e.2.1 = r ∧ ∀ z, z ∈ l' → 1 ≤ z.2.1
theorem Hd.one {c r d : Nat} {v : Int64} {b : List Int32} : Hd r [(c, r, d, v, b)] := ⟨_, [], rfl, rfl, fun z h => absurd h (by simp)⟩
theorem Hd.app {r s : Nat} {l m : List SEn} (h : Hd r l) (k : Hd s m) (hs : 1 ≤ s) : Hd r (l ++ m) := by
  obtain ⟨e, l', rfl, h1, h2⟩ := h
  obtain ⟨e', m', rfl, k1, k2⟩ := k
  refine ⟨e, l' ++ e' :: m', rfl, h1, fun z hz => ?_⟩
  rcases List.mem_append.mp hz with w | w
  · exact h2 z w
  · rcases List.mem_cons.mp w with w | w
    · rw [w, k1]; exact hs
    · exact k2 z w
theorem rF_pos {F : List SFd} {f : Nat} (hw : WfS F) (hf : f < F.length) (h : fKd F f = 2) : 1 ≤ rF F f := by
  unfold rF
  rw [upS_at hw.2.2.1 hf]
  have : wRep (fKd F) f = 1 := by unfold wRep; rw [if_pos h]
  omega
def okH (T : Nat → Int32) (n : Nat) (F : List SFd) (P : PGr) (Q : EGr) : Prop := ∀ (k : Nat) (g : Int32) (p : Nat) (L : List SNd), k ≤ n → gIs F g → (P k g p L).1 = -1 → p < L.length → (∀ f, f < F.length → fPa F f = g → kd L p f L.length = []) → (P k g p L).2.2.length < 2 ^ 30 → ∀ r c, c < ncol F → fG g ≤ lfC F c → lfC F c < pG F g → Hd r (colE c (Q k g p L r))
section Way
variable {T : Nat → Int32} {n : Nat} {F : List SFd} {P : PGr} {Q : EGr}
theorem val_H (hw : WfS F) (hn : n < 2 ^ 31) (hH : okH T n F P Q) {k p f : Nat} {L : List SNd} (hk : k ≤ n) (hf : f < F.length) (h : (pVal T n F P k p f L).1 = -1) (hl : (pVal T n F P k p f L).2.2.length < 2 ^ 30) {r c : Nat} (hc : c < ncol F) (h1 : f ≤ lfC F c) (h2 : lfC F c < pB F f) : Hd r (colE c (eVal T n F P Q k p f L r)) := by
  have hF := hw.1
  have hs := @skip_le T n k hk
  have hlf := lfC_ok hc
  by_cases ht : fTy F f = 4
  · have e1 : pVal T n F P k p f L = P (skip T n k) (nI f) L.length (L ++ [(nI p, nI f, 0, [])]) := by unfold pVal; rw [if_pos ht]
    have e2 : eVal T n F P Q k p f L r = Q (skip T n k) (nI f) L.length (L ++ [(nI p, nI f, 0, [])]) r := by unfold eVal; rw [if_pos ht]
    rw [e1] at h hl
    rw [e2]
    have l1 : (L ++ [(nI p, nI f, (0 : Int64), ([] : List Int32))]).length = L.length + 1 := by rw [List.length_append]; rfl
    have ne : lfC F c ≠ f := fun z => by rw [z] at hlf; exact hlf.2.1 ht
    refine hH (skip T n k) (nI f) L.length (L ++ [(nI p, nI f, 0, [])]) hs (Or.inr ⟨f, hf, rfl, ht⟩) h (by omega) (fun f2 _ _ => kd_0 (by omega)) hl r c hc ?_ ?_
    · unfold fG; rw [if_neg (nI_nm1 (by omega)), nI_clamp (by omega)]; omega
    · unfold pG; rw [if_neg (nI_nm1 (by omega)), nI_clamp (by omega)]; exact h2
  · obtain ⟨-, w, b, h3⟩ := pVal_leaf hn hk ht h
    have e2 : eVal T n F P Q k p f L r = [(cB F f, r, dG F (nI f), w, b)] := by unfold eVal; rw [if_neg ht, h3, ndNew]
    have pb := pB_leaf hw hf ht
    have e : lfC F c = f := by omega
    rw [e2, colE_one, if_pos (by rw [← e]; exact hlf.2.2)]
    exact Hd.one
theorem row_H (hw : WfS F) (hn : n < 2 ^ 31) (hM : ∀ k g p L, L.length ≤ (P k g p L).2.2.length) (hG : okPQ T n F P Q) (hH : okH T n F P Q) {p f : Nat} (hf : f < F.length) (h2 : fKd F f = 2) {c : Nat} (hc : c < ncol F) (hc1 : f ≤ lfC F c) (hc2 : lfC F c < pB F f) : ∀ (d k : Nat) (L : List SNd), k ≤ n → (pRow T n F P p f d k L).1 = -1 → p < L.length → (pRow T n F P p f d k L).2.2.length < 2 ^ 30 → ∀ r, Hd r (colE c (eRow T n F P Q p f d k L r)) := by
  intro d
  induction d with
  | zero => intro k L hk h; exact absurd h (by show ¬ (-3 : Int32) = -1; decide)
  | succ d ih =>
    intro k L hk h hp hl r
    have ee : eRow T n F P Q p f (d + 1) k L r = eVal T n F P Q k p f L r ++ (if skip T n (pVal T n F P k p f L).2.1 < n ∧ T (skip T n (pVal T n F P k p f L).2.1) = 44 then eRow T n F P Q p f d (skip T n (pVal T n F P k p f L).2.1 + 1) (pVal T n F P k p f L).2.2 (rF F f) else []) := rfl
    simp only [pRow] at h hl
    by_cases c1 : (pVal T n F P k p f L).1 = -1
    · rw [if_pos c1] at h hl
      rw [ee, colE_app]
      have vm := pVal_mono hM (T := T) (n := n) (F := F) (k := k) (p := p) (f := f) (L := L)
      have V := fun hl => val_ok (Q := Q) hw hn hG hk hf c1 hp hl
      by_cases c2 : skip T n (pVal T n F P k p f L).2.1 < n ∧ T (skip T n (pVal T n F P k p f L).2.1) = 93
      · rw [if_pos c2] at hl
        rw [if_neg (fun z => by rw [c2.2] at z; exact absurd z.2 (by decide))]
        show Hd r (_ ++ [])
        rw [List.append_nil]
        exact val_H hw hn hH hk hf c1 hl hc hc1 hc2
      · rw [if_neg c2] at h hl
        by_cases c3 : skip T n (pVal T n F P k p f L).2.1 < n ∧ T (skip T n (pVal T n F P k p f L).2.1) = 44
        · rw [if_pos c3] at h hl ⊢
          have mono := pRow_mono hM (p := p) (f := f) (T := T) (n := n) (F := F) d (skip T n (pVal T n F P k p f L).2.1 + 1) (pVal T n F P k p f L).2.2
          exact (val_H hw hn hH hk hf c1 (by omega) hc hc1 hc2).app (ih _ _ c3.1 h (by omega) hl (rF F f)) (rF_pos hw hf h2)
        · rw [if_neg c3] at h hl
          have := @skip_le T n (pVal T n F P k p f L).2.1 (V hl).1
          exact absurd h (nI_nm1 (by omega))
    · rw [if_neg c1] at h
      exact absurd h c1
theorem vals_H (hw : WfS F) (hn : n < 2 ^ 31) (hM : ∀ k g p L, L.length ≤ (P k g p L).2.2.length) (hG : okPQ T n F P Q) (hH : okH T n F P Q) {k p f : Nat} {L : List SNd} (hk : k ≤ n) (hf : f < F.length) (h : (pVals T n F P k p f L).1 = -1) (hp : p < L.length) (hl : (pVals T n F P k p f L).2.2.length < 2 ^ 30) {r c : Nat} (hc : c < ncol F) (hc1 : f ≤ lfC F c) (hc2 : lfC F c < pB F f) : Hd r (colE c (eVals T n F P Q k p f L r)) := by
  have hs := @skip_le T n k hk
  unfold pVals at h hl
  unfold eVals
  by_cases c2 : fKd F f = 2
  · rw [if_pos c2] at h hl ⊢
    by_cases c : skip T n k < n ∧ T (skip T n k) = 91
    · rw [if_pos c] at h hl
      by_cases c3 : skip T n (skip T n k + 1) < n ∧ T (skip T n (skip T n k + 1)) = 93
      · rw [if_pos c3, colE_mis hc, if_pos ⟨hc1, hc2⟩]
        exact Hd.one
      · rw [if_neg c3] at h hl ⊢
        exact row_H hw hn hM hG hH hf c2 hc hc1 hc2 _ _ _ c.1 h hp hl r
    · rw [if_neg c] at h
      exact absurd h (nI_nm1 (by omega))
  · rw [if_neg c2] at h hl ⊢
    exact val_H hw hn hH hk hf h hl hc hc1 hc2
theorem fld_H (hw : WfS F) (hn : n < 2 ^ 31) (hM : ∀ k g p L, L.length ≤ (P k g p L).2.2.length) (hG : okPQ T n F P Q) (hH : okH T n F P Q) {g : Int32} {p : Nat} (hg : gOk F.length g) {c : Nat} (hc : c < ncol F) (hc2 : lfC F c < pG F g) : ∀ (d k fr : Nat) (b : Bool) (L : List SNd), k ≤ n → (pFld T n F P g p d k fr b L).1 = -1 → p < L.length → frV F g fr → (∀ f, f < F.length → fPa F f = g → fr ≤ f → kd L p f L.length = []) → (pFld T n F P g p d k fr b L).2.2.length < 2 ^ 30 → fcO F g fr ≤ lfC F c → ∀ r, Hd r (colE c (eFld T n F P Q g p d k fr b L r)) := by
  have hF := hw.1
  intro d
  induction d with
  | zero => intro k fr b L hk h; exact absurd h (by show ¬ (-3 : Int32) = -1; decide)
  | succ d ih =>
    intro k fr b L hk h hp hv h0 hl hc1 r
    have hs := @skip_le T n k hk
    have nn : ∀ j, j ≤ n → ¬ nI j = -1 := fun j hj => nI_nm1 (by omega)
    by_cases c1 : b = true ∧ skip T n k < n ∧ T (skip T n k) = 125
    · obtain ⟨rfl, c1⟩ := c1
      rw [eFld_end c1, colE_mis hc, if_pos ⟨hc1, hc2⟩]
      exact Hd.one
    · simp only [pFld] at h hl
      simp only [eFld]
      rw [if_neg c1] at h hl
      rw [if_neg c1]
      by_cases c2 : wln T n (skip T n k) = 0 ∨ fdF F g (rowL T (skip T n k) (wln T n (skip T n k))) = -1 ∨ (fdF F g (rowL T (skip T n k) (wln T n (skip T n k)))).toNatClampNeg < fr ∨ missF F g fr (fdF F g (rowL T (skip T n k) (wln T n (skip T n k)))).toNatClampNeg = true
      · rw [if_pos c2] at h; exact absurd h (nn _ hs)
      rw [if_neg c2] at h hl
      have hwl := @wln_le T n (skip T n k) hs
      have hs2 := @skip_le T n (skip T n k + wln T n (skip T n k)) hwl
      by_cases c3 : ¬ (skip T n (skip T n k + wln T n (skip T n k)) < n ∧ T (skip T n (skip T n k + wln T n (skip T n k))) = 58)
      · rw [if_pos c3] at h; exact absurd h (nn _ hs2)
      rw [if_neg c3] at h hl
      rcases (fnd_is : fdF F g (rowL T (skip T n k) (wln T n (skip T n k))) = -1 ∨ _) with z | ⟨f, f1, f2, f3⟩
      · exact absurd (Or.inr (Or.inl z)) c2
      have f3 := of_decide_eq_true f3
      have f2 : fdF F g (rowL T (skip T n k) (wln T n (skip T n k))) = nI f := f2
      rw [f2, nI_clamp (by omega)] at h hl c2 ⊢
      have hfr : fr ≤ f := by
        rcases Nat.lt_or_ge f fr with z | z
        · exact absurd (Or.inr (Or.inr (Or.inl z))) c2
        · exact z
      have hk3 : skip T n (skip T n k + wln T n (skip T n k)) + 1 ≤ n := by
        by_cases z : skip T n (skip T n k + wln T n (skip T n k)) < n
        · exact z
        · exact absurd (fun w => z w.1) c3
      generalize skip T n (skip T n k + wln T n (skip T n k)) + 1 = k3 at *
      by_cases c4 : ¬ (pVals T n F P k3 p f L).1 = -1
      · rw [if_pos c4] at h; exact absurd h c4
      have c4 : (pVals T n F P k3 p f L).1 = -1 := Classical.not_not.mp c4
      have V := fun hl => vals_ok (Q := Q) hw hn hM hG hk3 f1 c4 hp (h0 f f1 f3.1 hfr) hl
      have VH := fun hl a b => vals_H (r := r) hw hn hM hG hH hk3 f1 c4 hp hl hc a b
      have hv2 : frV F g (f + 1) := Or.inr ⟨f, rfl, f1, f3.1⟩
      have efc : fcO F g (f + 1) = pB F f := by unfold fcO; rw [if_neg (by omega)]; rfl
      have hfpb := pB_gt hw f1
      have hvl := pVals_mono hM (T := T) (n := n) (F := F) (k := k3) (p := p) (f := f) (L := L)
      rw [if_neg (fun z => z c4)] at h hl
      generalize pVals T n F P k3 p f L = v at *
      have main : ∀ (rest : List SEn), v.2.2.length < 2 ^ 30 → (lfC F c < pB F f → colE c rest = []) → (pB F f ≤ lfC F c → Hd r (colE c rest)) → Hd r (colE c (misE F (fcO F g fr) f r g ++ eVals T n F P Q k3 p f L r ++ rest)) := by
        intro rest m1 m2 m3
        rw [colE_app, colE_app, colE_mis hc]
        rcases Nat.lt_or_ge (lfC F c) f with z | z
        · rw [if_pos ⟨hc1, z⟩, m2 (by omega), (V m1).2.2.2 r c hc, if_neg (by omega)]
          exact Hd.one
        · rw [if_neg (by omega)]
          rcases Nat.lt_or_ge (lfC F c) (pB F f) with z2 | z2
          · rw [m2 z2, List.append_nil]
            exact VH m1 z z2
          · rw [(V m1).2.2.2 r c hc, if_neg (by omega)]
            exact m3 z2
      have none2 : ∀ hl : v.2.2.length < 2 ^ 30, ∀ f', f' < F.length → fPa F f' = g → f + 1 ≤ f' → kd v.2.2 p f' v.2.2.length = [] := fun hl f' a b c => by rw [(V hl).2.2.1 f' a (by omega)]; exact h0 f' a b (by omega)
      by_cases c5 : skip T n v.2.1 < n ∧ T (skip T n v.2.1) = 125
      · rw [if_pos c5, pEnd_mono] at hl
        rw [if_neg (fun z => by rw [c5.2] at z; exact absurd z.2 (by decide))]
        refine main _ hl (fun z => ?_) (fun z => ?_)
        · rw [colE_mis hc, if_neg (by omega)]
        · rw [colE_mis hc, if_pos ⟨z, hc2⟩]; exact Hd.one
      rw [if_neg c5] at h hl
      by_cases c6 : skip T n v.2.1 < n ∧ T (skip T n v.2.1) = 44
      · rw [if_pos c6] at h hl ⊢
        have mono := pFld_mono hM (T := T) (n := n) (F := F) (g := g) (p := p) d (skip T n v.2.1 + 1) (f + 1) false v.2.2
        have hl2 : v.2.2.length < 2 ^ 30 := by omega
        refine main _ hl2 (fun z => ?_) (fun z => ?_)
        · rw [(fld_ok (Q := Q) hw hn hM hG hg d (skip T n v.2.1 + 1) (f + 1) false v.2.2 c6.1 h (by omega) hv2 (none2 hl2) hl).2.2.2 r c hc, if_neg (by rw [efc]; omega)]
        · exact ih (skip T n v.2.1 + 1) (f + 1) false v.2.2 c6.1 h (by omega) hv2 (none2 hl2) hl (by rw [efc]; exact z) r
      · rw [if_neg c6] at h hl
        have := @skip_le T n v.2.1 (V hl).1
        exact absurd h (nn _ this)
end Way
theorem grp_H {T : Nat → Int32} {n : Nat} {F : List SFd} (hw : WfS F) (hn : n < 2 ^ 31) : ∀ D, okH T n F (pGrp T n F D) (eGrp T n F D) := by
  intro D
  induction D with
  | zero => intro k g p L hk hg h; exact absurd h (by show ¬ (-3 : Int32) = -1; decide)
  | succ D ih =>
    intro k g p L hk hg h hp h0 hl r c hc h1 h2
    have hs := @skip_le T n k hk
    have e1 : pGrp T n F (D + 1) k g p L = if skip T n k < n ∧ T (skip T n k) = 123 then pFld T n F (pGrp T n F D) g p 200 (skip T n k + 1) 0 true L else (nI (skip T n k), skip T n k, L) := rfl
    have e2 : eGrp T n F (D + 1) k g p L r = eFld T n F (pGrp T n F D) (eGrp T n F D) g p 200 (skip T n k + 1) 0 true L r := rfl
    by_cases c' : skip T n k < n ∧ T (skip T n k) = 123
    · rw [if_pos c'] at e1
      rw [e1] at h hl
      rw [e2]
      exact fld_H hw hn (pGrp_mono D) (grp_ok hw hn D) ih hg.ok hc h2 200 (skip T n k + 1) 0 true L c'.1 h hp (Or.inl rfl) (fun f a b _ => h0 f a b) hl h1 r
    · rw [if_neg c'] at e1
      rw [e1] at h
      exact absurd h (nI_nm1 (by omega))
theorem rec_Hd {T : Nat → Int32} {n : Nat} {F : List SFd} (hw : WfS F) (hn : n < 2 ^ 31) (h : (pGrp T n F 18 0 (-1) 0 nd1).1 = -1) (hl : (pGrp T n F 18 0 (-1) 0 nd1).2.2.length < 2 ^ 30) {c : Nat} (hc : c < ncol F) : Hd 0 (colS F (pGrp T n F 18 0 (-1) 0 nd1).2.2 c) := by
  rw [← rec_col hw hn h hl hc]
  exact grp_H hw hn 18 0 (-1) 0 nd1 (Nat.zero_le _) (Or.inl rfl) h (by decide) (fun f _ _ => kd_0 (by decide)) hl 0 c hc (Nat.zero_le _) (lfC_ok hc).1
/-! all entries lie in columns -/
section Lt
variable {T : Nat → Int32} {n : Nat} {F : List SFd} {P : PGr} {Q : EGr}
theorem misE_lt {a b r : Nat} {g : Int32} {e : SEn} (h : e ∈ misE F a b r g) : e.1 < ncol F := by
  unfold misE at h
  obtain ⟨i, i1, rfl⟩ := List.mem_map.mp h
  have := List.mem_range.mp i1
  have := cB_le F b
  show cB F a + i < _
  omega
theorem eVal_lt (hQ : ∀ k g p L r e, e ∈ Q k g p L r → e.1 < ncol F) {k p f : Nat} {L : List SNd} {r : Nat} (hf : f < F.length) {e : SEn} (h : e ∈ eVal T n F P Q k p f L r) : e.1 < ncol F := by
  unfold eVal at h
  by_cases ht : fTy F f = 4
  · rw [if_pos ht] at h; exact hQ _ _ _ _ _ _ h
  · rw [if_neg ht, List.mem_singleton] at h
    rw [h]
    exact ncol_lt hf ht
theorem eRow_lt (hQ : ∀ k g p L r e, e ∈ Q k g p L r → e.1 < ncol F) {p f : Nat} (hf : f < F.length) : ∀ d k L r e, e ∈ eRow T n F P Q p f d k L r → e.1 < ncol F := by
  intro d
  induction d with
  | zero => intro k L r e h; exact absurd h (by show ¬ e ∈ []; simp)
  | succ d ih =>
    intro k L r e h
    simp only [eRow] at h
    rcases List.mem_append.mp h with z | z
    · exact eVal_lt hQ hf z
    · split at z
      · exact ih _ _ _ _ z
      · exact absurd z (by simp)
theorem eFld_lt (hF : F ≠ []) (hF2 : F.length ≤ 128) (hQ : ∀ k g p L r e, e ∈ Q k g p L r → e.1 < ncol F) {g : Int32} {p : Nat} : ∀ d k fr b L r e, e ∈ eFld T n F P Q g p d k fr b L r → e.1 < ncol F := by
  have h0 : 0 < F.length := List.length_pos_iff.mpr hF
  intro d
  induction d with
  | zero => intro k fr b L r e h; exact absurd h (by show ¬ e ∈ []; simp)
  | succ d ih =>
    intro k fr b L r e h
    simp only [eFld] at h
    split at h
    · exact misE_lt h
    · have hf : (fdF F g (rowL T (skip T n k) (wln T n (skip T n k)))).toNatClampNeg < F.length := by
        rcases (fnd_is : fdF F g (rowL T (skip T n k) (wln T n (skip T n k))) = -1 ∨ _) with z | ⟨f, f1, f2, f3⟩
        · have z : fdF F g (rowL T (skip T n k) (wln T n (skip T n k))) = -1 := z
          rw [z]; exact h0
        · have f2 : fdF F g (rowL T (skip T n k) (wln T n (skip T n k))) = nI f := f2
          rw [f2, nI_clamp (by omega)]; exact f1
      rcases List.mem_append.mp h with z | z
      · rcases List.mem_append.mp z with z | z
        · exact misE_lt z
        · unfold eVals at z
          repeat' split at z
          · exact misE_lt z
          · exact eRow_lt hQ hf _ _ _ _ _ z
          · exact eVal_lt hQ hf z
      · split at z
        · exact ih _ _ _ _ _ _ z
        · exact misE_lt z
end Lt
theorem eGrp_lt {T : Nat → Int32} {n : Nat} {F : List SFd} (hF : F ≠ []) (hF2 : F.length ≤ 128) : ∀ D k g p L r e, e ∈ eGrp T n F D k g p L r → e.1 < ncol F := by
  intro D
  induction D with
  | zero => intro k g p L r e h; exact absurd h (by show ¬ e ∈ []; simp)
  | succ D ih => intro k g p L r e h; exact eFld_lt hF hF2 ih _ _ _ _ _ _ _ h
