/-! the same, along the text -/
/-- what a way to read groups keeps -/
def okPQ (T : Nat → Int32) (n : Nat) (F : List SFd) (P : PGr) (Q : EGr) : Prop := ∀ (k : Nat) (g : Int32) (p : Nat) (L : List SNd), k ≤ n → gIs F g → (P k g p L).1 = -1 → p < L.length → (∀ f, f < F.length → fPa F f = g → kd L p f L.length = []) → (P k g p L).2.2.length < 2 ^ 30 → (P k g p L).2.1 ≤ n ∧ Ext p L (P k g p L).2.2 ∧ ∀ r c, c < ncol F → colE c (Q k g p L r) = if fG g ≤ lfC F c ∧ lfC F c < pG F g then strF F (P k g p L).2.2 c (lfC F c) (upS wOne (fPa F) (nI (lfC F c)) - 1 - upS wOne (fPa F) g) p r (dG F g) else []
theorem pVal_leaf {T : Nat → Int32} {n : Nat} {F : List SFd} {P : PGr} {k p f : Nat} {L : List SNd} (hn : n < 2 ^ 31) (hk : k ≤ n) (ht : fTy F f ≠ 4) (h : (pVal T n F P k p f L).1 = -1) : (pVal T n F P k p f L).2.1 ≤ n ∧ ∃ w b, (pVal T n F P k p f L).2.2 = L ++ [(nI p, nI f, w, b)] := by
  have hs := @skip_le T n k hk
  have nn : ¬ nI (skip T n k) = -1 := nI_nm1 (by omega)
  unfold pVal at h ⊢
  rw [if_neg ht] at h ⊢
  by_cases c3 : fTy F f = 3
  · rw [if_pos c3] at h ⊢
    by_cases c : skip T n k < n ∧ T (skip T n k) = 39
    · rw [if_pos c] at h ⊢
      by_cases c4 : (qtO T n (skip T n k + 1) []).1 = -1
      · rw [if_pos c4]
        exact ⟨qtR_le hn _ _ _ (by omega) c4, _, _, rfl⟩
      · rw [if_neg c4] at h; exact absurd h c4
    · rw [if_neg c] at h; exact absurd h nn
  rw [if_neg c3] at h ⊢
  by_cases c0 : fTy F f = 0
  · rw [if_pos c0] at h ⊢
    by_cases c : isWd T n (skip T n k) [116, 114, 117, 101]
    · rw [if_pos c]
      exact ⟨wd_end c hs, _, _, rfl⟩
    · rw [if_neg c] at h ⊢
      by_cases c2 : isWd T n (skip T n k) [102, 97, 108, 115, 101]
      · rw [if_pos c2]
        exact ⟨wd_end c2 hs, _, _, rfl⟩
      · rw [if_neg c2] at h; exact absurd h nn
  rw [if_neg c0] at h ⊢
  by_cases c : (nmF T n (skip T n k)).1 = -1
  · rw [if_pos c] at h ⊢
    by_cases c2 : fTy F f = 1 ∧ ¬ (nmF T n (skip T n k)).2.2 = (nmF T n (skip T n k)).2.2.toInt32.toInt64
    · rw [if_pos c2] at h; exact absurd h nn
    · rw [if_neg c2]
      refine ⟨?_, _, _, rfl⟩
      show (nmF T n (skip T n k)).2.1 ≤ n
      have hK : nmK T n (skip T n k) ≤ n := by unfold nmK; split <;> omega
      have hd := (@dgO_le T n (nmK T n (skip T n k)) 0 false hK).2
      unfold nmF
      split
      · exact hK
      · split
        · exact hd
        · exact hd
  · rw [if_neg c] at h; exact absurd h c
theorem colE_one {c c' r d : Nat} {v : Int64} {b : List Int32} : colE c [(c', r, d, v, b)] = if c' = c then [(c', r, d, v, b)] else [] := by
  unfold colE
  rw [List.filter_cons]
  by_cases e : c' = c
  · rw [if_pos e, decide_eq_true e]; rfl
  · rw [if_neg e, decide_eq_false e]; rfl
theorem pVal_mono {T : Nat → Int32} {n : Nat} {F : List SFd} {P : PGr} (hM : ∀ k g p L, L.length ≤ (P k g p L).2.2.length) {k p f : Nat} {L : List SNd} : L.length ≤ (pVal T n F P k p f L).2.2.length := by
  unfold pVal
  split
  · have := hM (skip T n k) (nI f) L.length (L ++ [(nI p, nI f, 0, [])])
    rw [List.length_append] at this
    omega
  · repeat' split
    all_goals (first | exact Nat.le_refl _ | (show _ ≤ (L ++ [_]).length; rw [List.length_append]; omega))
theorem pRow_mono {T : Nat → Int32} {n : Nat} {F : List SFd} {P : PGr} (hM : ∀ k g p L, L.length ≤ (P k g p L).2.2.length) {p f : Nat} : ∀ d k L, L.length ≤ (pRow T n F P p f d k L).2.2.length := by
  intro d
  induction d with
  | zero => intro k L; exact Nat.le_refl _
  | succ d ih =>
    intro k L
    have hv := @pVal_mono T n F P hM k p f L
    simp only [pRow]
    repeat' split
    · exact hv
    · exact Nat.le_trans hv (ih _ _)
    · exact hv
    · exact hv
theorem pVals_mono {T : Nat → Int32} {n : Nat} {F : List SFd} {P : PGr} (hM : ∀ k g p L, L.length ≤ (P k g p L).2.2.length) {k p f : Nat} {L : List SNd} : L.length ≤ (pVals T n F P k p f L).2.2.length := by
  unfold pVals
  repeat' split
  · exact Nat.le_refl _
  · exact pRow_mono hM _ _ _
  · exact Nat.le_refl _
  · exact pVal_mono hM
theorem pEnd_mono {F : List SFd} {g : Int32} {s fr : Nat} {L : List SNd} : (pEnd F g s fr L).2.2 = L := by
  unfold pEnd
  split <;> rfl
theorem pFld_mono {T : Nat → Int32} {n : Nat} {F : List SFd} {P : PGr} (hM : ∀ k g p L, L.length ≤ (P k g p L).2.2.length) {g : Int32} {p : Nat} : ∀ d k fr b L, L.length ≤ (pFld T n F P g p d k fr b L).2.2.length := by
  intro d
  induction d with
  | zero => intro k fr b L; exact Nat.le_refl _
  | succ d ih =>
    intro k fr b L
    simp only [pFld]
    repeat' split
    · rw [pEnd_mono]; exact Nat.le_refl _
    · exact Nat.le_refl _
    · exact Nat.le_refl _
    · exact pVals_mono hM
    · rw [pEnd_mono]; exact pVals_mono hM
    · exact Nat.le_trans (pVals_mono hM) (ih _ _ _ _)
    · exact pVals_mono hM
theorem pGrp_mono {T : Nat → Int32} {n : Nat} {F : List SFd} : ∀ D k g p L, L.length ≤ (pGrp T n F D k g p L).2.2.length := by
  intro D
  induction D with
  | zero => intro k g p L; exact Nat.le_refl _
  | succ D ih =>
    intro k g p L
    simp only [pGrp]
    split
    · exact pFld_mono ih _ _ _ _ _
    · exact Nat.le_refl _
section Way
variable {T : Nat → Int32} {n : Nat} {F : List SFd} {P : PGr} {Q : EGr}
/-- how far a leaf lies below f -/
abbrev dM (F : List SFd) (leaf f : Nat) : Nat := upS wOne (fPa F) (nI leaf) - upS wOne (fPa F) (nI f)
theorem val_ok (hw : WfS F) (hn : n < 2 ^ 31) (hG : okPQ T n F P Q) {k p f : Nat} {L : List SNd} (hk : k ≤ n) (hf : f < F.length) (h : (pVal T n F P k p f L).1 = -1) (hp : p < L.length) (hl : (pVal T n F P k p f L).2.2.length < 2 ^ 30) :
    (pVal T n F P k p f L).2.1 ≤ n ∧ Ext p L (pVal T n F P k p f L).2.2 ∧ L.length < (pVal T n F P k p f L).2.2.length ∧ (∀ f2, f2 < F.length → kd (pVal T n F P k p f L).2.2 p f2 (pVal T n F P k p f L).2.2.length = kd L p f2 L.length ++ (if f2 = f then [L.length] else [])) ∧
    ∀ r c, c < ncol F → colE c (eVal T n F P Q k p f L r) = if f ≤ lfC F c ∧ lfC F c < pB F f then bodyK F (pVal T n F P k p f L).2.2 c (lfC F c) (dM F (lfC F c) f) f L.length r else [] := by
  have hF := hw.1
  have hs := @skip_le T n k hk
  by_cases ht : fTy F f = 4
  · have e1 : pVal T n F P k p f L = P (skip T n k) (nI f) L.length (L ++ [(nI p, nI f, 0, [])]) := by unfold pVal; rw [if_pos ht]
    have e2 : ∀ r, eVal T n F P Q k p f L r = Q (skip T n k) (nI f) L.length (L ++ [(nI p, nI f, 0, [])]) r := fun r => by unfold eVal; rw [if_pos ht]
    rw [e1] at h hl ⊢
    have l1 : (L ++ [(nI p, nI f, (0 : Int64), ([] : List Int32))]).length = L.length + 1 := by rw [List.length_append]; rfl
    obtain ⟨g1, g2, g3⟩ := hG (skip T n k) (nI f) L.length (L ++ [(nI p, nI f, 0, [])]) hs (Or.inr ⟨f, hf, rfl, ht⟩) h (by omega) (fun f2 _ _ => kd_0 (by omega)) hl
    have len := g2.len
    refine ⟨g1, g2.kid, by omega, fun f2 hf2 => ?_, fun r c hc => ?_⟩
    · rw [kd_ext g2 (by omega) (by omega) (by omega) (by omega), kd_one hp (by omega) (by omega)]
    · rw [e2 r, g3 r c hc]
      have eg : fG (nI f) = f + 1 := by unfold fG; rw [if_neg (nI_nm1 (by omega)), nI_clamp (by omega)]
      have ep : pG F (nI f) = pB F f := by unfold pG; rw [if_neg (nI_nm1 (by omega)), nI_clamp (by omega)]
      have hlf := lfC_ok hc
      rw [eg, ep]
      by_cases d : f ≤ lfC F c ∧ lfC F c < pB F f
      · have ne : lfC F c ≠ f := fun z => by rw [z] at hlf; exact hlf.2.1 ht
        rw [if_pos d, if_pos ⟨by omega, d.2⟩]
        have dd := (dsc_iff hw hf hlf.1).mpr d
        obtain ⟨a1, a2⟩ := anc_of hw _ hlf.1 dd
        have hm : 0 < dM F (lfC F c) f := by
          rcases Nat.eq_zero_or_pos (dM F (lfC F c) f) with z | z
          · unfold dM at z; rw [z] at a1; exact absurd a1 ne
          · exact z
        unfold bodyK
        rw [if_neg (by omega)]
        congr 1
        unfold dM
        omega
      · rw [if_neg d, if_neg (fun z => d ⟨by omega, z.2⟩)]
  · obtain ⟨h1, w, b, h2⟩ := pVal_leaf hn hk ht h
    have e2 : ∀ r, eVal T n F P Q k p f L r = [(cB F f, r, dG F (nI f), w, b)] := fun r => by unfold eVal; rw [if_neg ht, h2, ndNew]
    have pb := pB_leaf hw hf ht
    rw [h2] at hl ⊢
    have l1 : (L ++ [(nI p, nI f, w, b)]).length = L.length + 1 := by rw [List.length_append]; rfl
    refine ⟨h1, Ext.kid (Ext.refl _ _), by omega, fun f2 hf2 => kd_one hp (by omega) (by omega), fun r c hc => ?_⟩
    have hlf := lfC_ok hc
    rw [e2 r, colE_one, pb]
    by_cases d : lfC F c = f
    · rw [if_pos (by rw [← d]; exact hlf.2.2), if_pos ⟨by omega, by omega⟩]
      unfold bodyK
      rw [d, if_pos (by unfold dM; omega), ndNew]
      rw [← d, hlf.2.2]
    · rw [if_neg (fun z => d (by rw [← z]; exact lfC_of hf ht)), if_neg (fun z => d (by omega))]
theorem row_ok (hw : WfS F) (hn : n < 2 ^ 31) (hM : ∀ k g p L, L.length ≤ (P k g p L).2.2.length) (hG : okPQ T n F P Q) {p f : Nat} (hf : f < F.length) : ∀ (d k : Nat) (L : List SNd), k ≤ n → (pRow T n F P p f d k L).1 = -1 → p < L.length → (pRow T n F P p f d k L).2.2.length < 2 ^ 30 →
    (pRow T n F P p f d k L).2.1 ≤ n ∧ Ext p L (pRow T n F P p f d k L).2.2 ∧ ∃ ks, ks ≠ [] ∧ (∀ i, i ∈ ks → p < i ∧ i < (pRow T n F P p f d k L).2.2.length) ∧ (∀ f2, f2 < F.length → kd (pRow T n F P p f d k L).2.2 p f2 (pRow T n F P p f d k L).2.2.length = kd L p f2 L.length ++ (if f2 = f then ks else [])) ∧
    ∀ r c, c < ncol F → colE c (eRow T n F P Q p f d k L r) = if f ≤ lfC F c ∧ lfC F c < pB F f then goK (bodyK F (pRow T n F P p f d k L).2.2 c (lfC F c) (dM F (lfC F c) f) f) (rF F f) ks r else [] := by
  intro d
  induction d with
  | zero => intro k L hk h; exact absurd h (by show ¬ (-3 : Int32) = -1; decide)
  | succ d ih =>
    intro k L hk h hp hl
    have er : pRow T n F P p f (d + 1) k L = if (pVal T n F P k p f L).1 = -1 then
      (if skip T n (pVal T n F P k p f L).2.1 < n ∧ T (skip T n (pVal T n F P k p f L).2.1) = 93 then (-1, skip T n (pVal T n F P k p f L).2.1 + 1, (pVal T n F P k p f L).2.2)
      else if skip T n (pVal T n F P k p f L).2.1 < n ∧ T (skip T n (pVal T n F P k p f L).2.1) = 44 then pRow T n F P p f d (skip T n (pVal T n F P k p f L).2.1 + 1) (pVal T n F P k p f L).2.2
      else (nI (skip T n (pVal T n F P k p f L).2.1), skip T n (pVal T n F P k p f L).2.1, (pVal T n F P k p f L).2.2)) else pVal T n F P k p f L := rfl
    have ee : ∀ r, eRow T n F P Q p f (d + 1) k L r = eVal T n F P Q k p f L r ++ (if skip T n (pVal T n F P k p f L).2.1 < n ∧ T (skip T n (pVal T n F P k p f L).2.1) = 44 then eRow T n F P Q p f d (skip T n (pVal T n F P k p f L).2.1 + 1) (pVal T n F P k p f L).2.2 (rF F f) else []) := fun r => rfl
    by_cases c1 : (pVal T n F P k p f L).1 = -1
    · rw [if_pos c1] at er
      have V := fun hl => val_ok (Q := Q) hw hn hG hk hf c1 hp hl
      generalize pVal T n F P k p f L = v at *
      by_cases c2 : skip T n v.2.1 < n ∧ T (skip T n v.2.1) = 93
      · rw [if_pos c2] at er
        rw [er] at h hl ⊢
        obtain ⟨v1, v2, v3, v4, v5⟩ := V hl
        refine ⟨c2.1, v2, [L.length], by simp, fun i hi => ?_, fun f2 hf2 => v4 f2 hf2, fun r c hc => ?_⟩
        · rw [List.mem_singleton] at hi; rw [hi]; exact ⟨hp, v3⟩
        · rw [ee r, if_neg (fun z => by rw [c2.2] at z; exact absurd z.2 (by decide)), List.append_nil, v5 r c hc]
          split
          · show _ = _ ++ []
            rw [List.append_nil]
          · rfl
      · rw [if_neg c2] at er
        by_cases c3 : skip T n v.2.1 < n ∧ T (skip T n v.2.1) = 44
        · rw [if_pos c3] at er
          rw [er] at h hl ⊢
          have hvl : L.length ≤ v.2.2.length ∨ True := Or.inr trivial
          -- the rest only grows
          have I := ih (skip T n v.2.1 + 1) v.2.2 c3.1 h
          have pre : v.2.2.length < 2 ^ 30 := by
            have := pRow_mono hM (p := p) (f := f) (T := T) (n := n) (F := F) d (skip T n v.2.1 + 1) v.2.2
            omega
          obtain ⟨v1, v2, v3, v4, v5⟩ := V pre
          obtain ⟨i1, i2, ks, i3, i4, i5, i6⟩ := I (by omega) hl
          have len := i2.len
          refine ⟨i1, v2.trans i2, L.length :: ks, by simp, fun i hi => ?_, fun f2 hf2 => ?_, fun r c hc => ?_⟩
          · rcases List.mem_cons.mp hi with z | z
            · rw [z]; exact ⟨hp, by omega⟩
            · exact i4 i z
          · rw [i5 f2 hf2, v4 f2 hf2, List.append_assoc]
            congr 1
            split <;> rfl
          · rw [ee r, if_pos c3, colE_app, v5 r c hc, i6 (rF F f) c hc]
            split
            · show _ = bodyK F _ c (lfC F c) (dM F (lfC F c) f) f L.length r ++ goK _ _ ks _
              rw [bodyK_ext i2 (by omega) (by omega) hp v3]
            · rfl
        · rw [if_neg c3] at er
          rw [er] at h
          rw [er] at hl
          obtain ⟨v1, -⟩ := V hl
          have := @skip_le T n v.2.1 v1
          exact absurd h (nI_nm1 (by omega))
    · rw [if_neg c1] at er
      rw [er] at h
      exact absurd h c1
end Way
