/-! what entries of records are: texts no longer than the record's, values of their types -/
theorem esc_bd2 {T : Nat → Int32} {n k : Nat} (hn : n < 2 ^ 31) (hk : k < 2 ^ 31) (h : (escL T n k).2.2 = -1) : 0 ≤ (escL T n k).2.1 ∧ (escL T n k).2.1 ≤ 255 := by
  unfold escL at h ⊢
  split at h
  · exact absurd h (nI_nm1 hn)
  rename_i c1
  rw [if_neg c1]
  split at h
  · rename_i c2
    rw [if_pos c2]
    show 0 ≤ T (k + 1) ∧ T (k + 1) ≤ 255
    rcases c2 with z | z <;> rw [z] <;> decide
  rename_i c2
  rw [if_neg c2]
  split at h
  · exact absurd h (nI_nm1 hk)
  rename_i c3
  rw [if_neg c3]
  split at h
  · exact absurd h (nI_nm1 hn)
  rename_i c4
  rw [if_neg c4]
  split at h
  · exact absurd h (nI_nm1 hk)
  rename_i c5
  rw [if_neg c5]
  split at h
  · exact absurd h (nI_nm1 hn)
  rename_i c6
  rw [if_neg c6]
  split at h
  · exact absurd h (nI_nm1 hk)
  rename_i c7
  rw [if_neg c7]
  show 0 ≤ 16 * hexV (T (k + 2)) + hexV (T (k + 3)) ∧ 16 * hexV (T (k + 2)) + hexV (T (k + 3)) ≤ 255
  have a := hexV_bd c5
  have b := hexV_bd c7
  generalize hexV (T (k + 2)) = p at *
  generalize hexV (T (k + 3)) = q at *
  clear h c5 c7
  constructor <;> (rw [Int32.le_iff_toInt_le, z_add, z_mul]; simp only [Int32.le_iff_toInt_le, Int32.reduceToInt] at *; omega)
theorem fd_lt {F : List SFd} {g : Int32} {nm : List Int32} (hF : F.length < 2 ^ 31) (h : fdF F g nm ≠ -1) : (fdF F g nm).toNatClampNeg < F.length := by
  unfold fdF at h ⊢
  rcases fnd_is (p := fun f => decide (fPa F f = g ∧ fNm F f = nm)) (N := F.length) with z | ⟨f, f1, f2, -⟩
  · exact absurd z h
  · rw [f2, nI_clamp (by omega)]; exact f1
theorem okT_snoc {a : List Int32} {v : Int32} (h : okT a) (hl : a.length ≠ 255) (h0 : 0 ≤ v) (h1 : v ≤ 255) : okT (a ++ [v]) := by
  refine ⟨by rw [List.length_append]; have := h.1; show _ + 1 ≤ _; omega, fun j hj => ?_⟩
  rw [List.length_append] at hj
  have hj : j < a.length + 1 := hj
  by_cases c : j < a.length
  · rw [List.getD_eq_getElem?_getD, List.getElem?_append_left c, ← List.getD_eq_getElem?_getD]; exact h.2 j c
  · have e : j = a.length := by omega
    rw [e, List.getD_eq_getElem?_getD, List.getElem?_append_right (Nat.le_refl _), Nat.sub_self]
    exact ⟨h0, h1⟩
theorem qtR_ok {T : Nat → Int32} {n : Nat} (hn : n < 2 ^ 31) : ∀ d k a, okT a → (qtR T n d k a).1 = -1 → okT (qtR T n d k a).2.2 ∧ (qtR T n d k a).2.2.length + k ≤ (qtR T n d k a).2.1 + a.length := by
  intro d
  induction d with
  | zero => intro k a ha h; exact ⟨ha, by show a.length + k ≤ k + a.length; omega⟩
  | succ d ih =>
    intro k a ha h
    simp only [qtR] at h ⊢
    by_cases c1 : k < n ∧ T k = 39
    · rw [if_pos c1]
      exact ⟨ha, by show a.length + k ≤ k + 1 + a.length; omega⟩
    rw [if_neg c1] at h ⊢
    by_cases c2 : ¬ k < n ∨ T k < 32 ∨ 126 < T k ∨ a.length = 255
    · rw [if_pos c2]
      exact ⟨ha, by show a.length + k ≤ k + a.length; omega⟩
    rw [if_neg c2] at h ⊢
    have hkn : k < n := Classical.byContradiction (fun z => c2 (Or.inl z))
    have hl : a.length ≠ 255 := fun z => c2 (Or.inr (Or.inr (Or.inr z)))
    have t1 : ¬ T k < 32 := fun z => c2 (Or.inr (Or.inl z))
    have t2 : ¬ 126 < T k := fun z => c2 (Or.inr (Or.inr (Or.inl z)))
    by_cases c3 : T k = 92
    · rw [if_pos c3] at h ⊢
      by_cases c4 : (escL T n k).2.2 = -1
      · rw [if_pos c4] at h ⊢
        have bd := esc_bd2 hn (by omega) c4
        have ek := esc_ok c4 hn (by omega)
        have q := ih _ _ (okT_snoc ha hl bd.1 bd.2) h
        rw [List.length_append] at q
        refine ⟨q.1, ?_⟩
        have := q.2
        show _ + k ≤ _
        have e1 : [(escL T n k).2.1].length = 1 := rfl
        omega
      · rw [if_neg c4]
        exact ⟨ha, by show a.length + k ≤ k + a.length; omega⟩
    · rw [if_neg c3] at h ⊢
      have q := ih _ _ (okT_snoc ha hl (Int32.le_trans (by decide) (Int32.not_lt.mp t1)) (Int32.le_trans (Int32.not_lt.mp t2) (by decide))) h
      rw [List.length_append] at q
      refine ⟨q.1, ?_⟩
      have := q.2
      have e1 : [T k].length = 1 := rfl
      omega
def okEn (F : List SFd) (e : SEn) : Prop := (tyC F e.1 = 0 → e.2.2.2.1 = 0 ∨ e.2.2.2.1 = 1) ∧ (tyC F e.1 = 3 → okT e.2.2.2.2) ∧ (tyC F e.1 ≠ 3 → e.2.2.2.2 = [])
/-- what a way to read groups keeps -/
def okTx (T : Nat → Int32) (n : Nat) (F : List SFd) (P : PGr) (Q : EGr) : Prop := ∀ (k : Nat) (g : Int32) (p : Nat) (L : List SNd) (r : Nat), k ≤ n → (P k g p L).1 = -1 → (P k g p L).2.1 ≤ n ∧ k + tx (Q k g p L r) ≤ (P k g p L).2.1 ∧ ∀ e, e ∈ Q k g p L r → okEn F e
theorem okT_nil : okT [] := ⟨Nat.zero_le _, fun j hj => absurd hj (Nat.not_lt_zero _)⟩
theorem mis_tx {F : List SFd} {a b r : Nat} {g : Int32} : tx (misE F a b r g) = 0 ∧ ∀ e, e ∈ misE F a b r g → okEn F e := by
  have m : ∀ e, e ∈ misE F a b r g → e.2.2.2.1 = 0 ∧ e.2.2.2.2 = [] := fun e he => by
    obtain ⟨i, -, rfl⟩ := List.mem_map.mp he
    exact ⟨rfl, rfl⟩
  exact ⟨tx_none _ (fun e he => (m e he).2), fun e he => ⟨fun _ => Or.inl (m e he).1, fun _ => by rw [(m e he).2]; exact okT_nil, fun _ => (m e he).2⟩⟩
section Way
variable {T : Nat → Int32} {n : Nat} {F : List SFd} {P : PGr} {Q : EGr}
theorem tyC_of {f : Nat} (hf : f < F.length) (ht : fTy F f ≠ 4) : tyC F (cB F f) = uI (fTy F f) := by
  unfold tyC
  rw [lfC_of hf ht]
theorem uI_eq {v : Int32} {k : Nat} (h : uI v = k) : v = nI k := by rw [← h, nI_uI]
theorem val_tx (hn : n < 2 ^ 31) (hG : okTx T n F P Q) {k p f r : Nat} {L : List SNd} (hk : k ≤ n) (hf : f < F.length) (h : (pVal T n F P k p f L).1 = -1) :
    (pVal T n F P k p f L).2.1 ≤ n ∧ k + tx (eVal T n F P Q k p f L r) ≤ (pVal T n F P k p f L).2.1 ∧ ∀ e, e ∈ eVal T n F P Q k p f L r → okEn F e := by
  have hs := @skip_le T n k hk
  have hg := skip_ge T n k
  by_cases ht : fTy F f = 4
  · have e1 : pVal T n F P k p f L = P (skip T n k) (nI f) L.length (L ++ [(nI p, nI f, 0, [])]) := by unfold pVal; rw [if_pos ht]
    have e2 : eVal T n F P Q k p f L r = Q (skip T n k) (nI f) L.length (L ++ [(nI p, nI f, 0, [])]) r := by unfold eVal; rw [if_pos ht]
    rw [e1] at h ⊢
    rw [e2]
    obtain ⟨g1, g2, g3⟩ := hG _ _ _ _ r hs h
    exact ⟨g1, by omega, g3⟩
  · obtain ⟨l1, -⟩ := pVal_leaf hn hk ht h
    refine ⟨l1, ?_⟩
    have nn : ¬ nI (skip T n k) = -1 := nI_nm1 (by omega)
    have gd : ∀ w : SNd, (L ++ [w]).getD L.length (0, 0, 0, []) = w := fun w => by
      rw [List.getD_eq_getElem?_getD, List.getElem?_append_right (Nat.le_refl _), Nat.sub_self]; rfl
    have ev : eVal T n F P Q k p f L r = [(cB F f, r, dG F (nI f), ((pVal T n F P k p f L).2.2.getD L.length (0, 0, 0, [])).2.2.1, ((pVal T n F P k p f L).2.2.getD L.length (0, 0, 0, [])).2.2.2)] := by unfold eVal; rw [if_neg ht]
    have tyf := tyC_of hf ht
    have fin : ∀ (w : Int64) (b : List Int32) (K : Nat), pVal T n F P k p f L = (-1, K, L ++ [(nI p, nI f, w, b)]) → k + b.length ≤ K → ((uI (fTy F f) = 0 → w = 0 ∨ w = 1) ∧ (uI (fTy F f) = 3 → okT b) ∧ (uI (fTy F f) ≠ 3 → b = [])) → k + tx (eVal T n F P Q k p f L r) ≤ (pVal T n F P k p f L).2.1 ∧ ∀ e, e ∈ eVal T n F P Q k p f L r → okEn F e := fun w b K e1 e2 e3 => by
      rw [ev, e1]
      simp only [gd]
      refine ⟨by show k + (b.length + 0) ≤ K; omega, fun e he => ?_⟩
      rw [List.mem_singleton] at he
      rw [he]
      unfold okEn
      rw [tyf]
      exact e3
    by_cases c3 : fTy F f = 3
    · have u3 : uI (fTy F f) = 3 := by rw [c3]; rfl
      by_cases c : skip T n k < n ∧ T (skip T n k) = 39
      · by_cases c4 : (qtO T n (skip T n k + 1) []).1 = -1
        · have e1 : pVal T n F P k p f L = (-1, (qtO T n (skip T n k + 1) []).2.1, L ++ [(nI p, nI f, 0, (qtO T n (skip T n k + 1) []).2.2)]) := by unfold pVal; rw [if_neg ht, if_pos c3, if_pos c, if_pos c4]
          have q := qtR_ok hn _ _ _ okT_nil c4
          have q2 : (qtO T n (skip T n k + 1) []).2.2.length + (skip T n k + 1) ≤ (qtO T n (skip T n k + 1) []).2.1 + 0 := q.2
          exact fin _ _ _ e1 (by omega) ⟨fun z => by omega, fun _ => q.1, fun z => absurd u3 z⟩
        · exfalso
          unfold pVal at h
          rw [if_neg ht, if_pos c3, if_pos c, if_neg c4] at h
          exact c4 h
      · exfalso
        unfold pVal at h
        rw [if_neg ht, if_pos c3, if_neg c] at h
        exact nn h
    have u3 : uI (fTy F f) ≠ 3 := fun z => c3 (uI_eq z)
    by_cases c0 : fTy F f = 0
    · by_cases c : isWd T n (skip T n k) [116, 114, 117, 101]
      · have e1 : pVal T n F P k p f L = (-1, skip T n k + 4, L ++ [(nI p, nI f, 1, [])]) := by unfold pVal; rw [if_neg ht, if_neg c3, if_pos c0, if_pos c]
        exact fin _ _ _ e1 (by show k + 0 ≤ _; omega) ⟨fun _ => Or.inr rfl, fun z => absurd z u3, fun _ => rfl⟩
      · by_cases c2 : isWd T n (skip T n k) [102, 97, 108, 115, 101]
        · have e1 : pVal T n F P k p f L = (-1, skip T n k + 5, L ++ [(nI p, nI f, 0, [])]) := by unfold pVal; rw [if_neg ht, if_neg c3, if_pos c0, if_neg c, if_pos c2]
          exact fin _ _ _ e1 (by show k + 0 ≤ _; omega) ⟨fun _ => Or.inl rfl, fun z => absurd z u3, fun _ => rfl⟩
        · exfalso
          unfold pVal at h
          rw [if_neg ht, if_neg c3, if_pos c0, if_neg c, if_neg c2] at h
          exact nn h
    have u0 : uI (fTy F f) ≠ 0 := fun z => c0 (uI_eq z)
    by_cases c : (nmF T n (skip T n k)).1 = -1
    · by_cases c2 : fTy F f = 1 ∧ ¬ (nmF T n (skip T n k)).2.2 = (nmF T n (skip T n k)).2.2.toInt32.toInt64
      · exfalso
        unfold pVal at h
        rw [if_neg ht, if_neg c3, if_neg c0, if_pos c, if_pos c2] at h
        exact nn h
      · have e1 : pVal T n F P k p f L = (-1, (nmF T n (skip T n k)).2.1, L ++ [(nI p, nI f, (nmF T n (skip T n k)).2.2, [])]) := by unfold pVal; rw [if_neg ht, if_neg c3, if_neg c0, if_pos c, if_neg c2]
        have hK : skip T n k ≤ nmK T n (skip T n k) ∧ nmK T n (skip T n k) ≤ n := by unfold nmK; split <;> omega
        have hd := (@dgO_le T n (nmK T n (skip T n k)) 0 false hK.2).1
        have ge : skip T n k ≤ (nmF T n (skip T n k)).2.1 := by
          unfold nmF
          split
          · exact hK.1
          · split
            · exact Nat.le_trans hK.1 hd
            · exact Nat.le_trans hK.1 hd
        exact fin _ _ _ e1 (by show k + 0 ≤ _; omega) ⟨fun z => absurd z u0, fun z => absurd z u3, fun _ => rfl⟩
    · exfalso
      unfold pVal at h
      rw [if_neg ht, if_neg c3, if_neg c0, if_neg c] at h
      exact c h
theorem row_tx (hn : n < 2 ^ 31) (hG : okTx T n F P Q) {p f : Nat} (hf : f < F.length) : ∀ d k L r, k ≤ n → (pRow T n F P p f d k L).1 = -1 → (pRow T n F P p f d k L).2.1 ≤ n ∧ k + tx (eRow T n F P Q p f d k L r) ≤ (pRow T n F P p f d k L).2.1 ∧ ∀ e, e ∈ eRow T n F P Q p f d k L r → okEn F e := by
  intro d
  induction d with
  | zero => intro k L r _ h; exact absurd h (by show ¬ (-3 : Int32) = -1; decide)
  | succ d ih =>
    intro k L r hk h
    simp only [pRow] at h ⊢
    simp only [eRow]
    by_cases c1 : (pVal T n F P k p f L).1 = -1
    · rw [if_pos c1] at h ⊢
      obtain ⟨v1, v2, v3⟩ := val_tx (Q := Q) (r := r) hn hG hk hf c1
      have hs := @skip_le T n _ v1
      have hg := skip_ge T n (pVal T n F P k p f L).2.1
      by_cases c2 : skip T n (pVal T n F P k p f L).2.1 < n ∧ T (skip T n (pVal T n F P k p f L).2.1) = 93
      · rw [if_pos c2]
        rw [if_neg (fun z => by have := z.2; rw [c2.2] at this; exact absurd this (by decide)), List.append_nil]
        exact ⟨c2.1, by show _ ≤ skip T n _ + 1; omega, v3⟩
      · rw [if_neg c2] at h ⊢
        by_cases c3 : skip T n (pVal T n F P k p f L).2.1 < n ∧ T (skip T n (pVal T n F P k p f L).2.1) = 44
        · rw [if_pos c3] at h ⊢
          rw [if_pos c3]
          obtain ⟨w1, w2, w3⟩ := ih _ _ (rF F f) (by omega) h
          refine ⟨w1, by rw [tx_app]; omega, fun e he => ?_⟩
          rcases List.mem_append.mp he with z | z
          · exact v3 e z
          · exact w3 e z
        · rw [if_neg c3] at h
          exact absurd h (nI_nm1 (by omega))
    · rw [if_neg c1] at h; exact absurd h c1
theorem vals_tx (hn : n < 2 ^ 31) (hG : okTx T n F P Q) {k p f r : Nat} {L : List SNd} (hk : k ≤ n) (hf : f < F.length) (h : (pVals T n F P k p f L).1 = -1) :
    (pVals T n F P k p f L).2.1 ≤ n ∧ k + tx (eVals T n F P Q k p f L r) ≤ (pVals T n F P k p f L).2.1 ∧ ∀ e, e ∈ eVals T n F P Q k p f L r → okEn F e := by
  have hs := @skip_le T n k hk
  have hg := skip_ge T n k
  unfold pVals at h ⊢
  unfold eVals
  by_cases c2 : fKd F f = 2
  · rw [if_pos c2] at h ⊢
    rw [if_pos c2]
    by_cases c : skip T n k < n ∧ T (skip T n k) = 91
    · rw [if_pos c] at h ⊢
      have hg2 := skip_ge T n (skip T n k + 1)
      by_cases c3 : skip T n (skip T n k + 1) < n ∧ T (skip T n (skip T n k + 1)) = 93
      · rw [if_pos c3, if_pos c3]
        rw [mis_tx.1]
        exact ⟨c3.1, by show k + 0 ≤ skip T n (skip T n k + 1) + 1; omega, mis_tx.2⟩
      · rw [if_neg c3] at h ⊢
        rw [if_neg c3]
        obtain ⟨w1, w2, w3⟩ := row_tx (Q := Q) hn hG hf (n + 1) (skip T n k + 1) L r c.1 h
        exact ⟨w1, by omega, w3⟩
    · rw [if_neg c] at h
      exact absurd h (nI_nm1 (by omega))
  · rw [if_neg c2] at h ⊢
    rw [if_neg c2]
    exact val_tx hn hG hk hf h
theorem fld_tx (hF : F.length < 2 ^ 31) (hn : n < 2 ^ 31) (hG : okTx T n F P Q) {g : Int32} {p : Nat} : ∀ (d k fr : Nat) (b : Bool) (L : List SNd) (r : Nat), k ≤ n → (pFld T n F P g p d k fr b L).1 = -1 → (pFld T n F P g p d k fr b L).2.1 ≤ n ∧ k + tx (eFld T n F P Q g p d k fr b L r) ≤ (pFld T n F P g p d k fr b L).2.1 ∧ ∀ e, e ∈ eFld T n F P Q g p d k fr b L r → okEn F e := by
  intro d
  induction d with
  | zero => intro k fr b L r hk h; exact absurd h (by show ¬ (-3 : Int32) = -1; decide)
  | succ d ih =>
    intro k fr b L r hk h
    have hs := @skip_le T n k hk
    have hg := skip_ge T n k
    have nn : ∀ j, j ≤ n → ¬ nI j = -1 := fun j hj => nI_nm1 (by omega)
    have endE : ∀ (s fr : Nat) (L : List SNd), s ≤ n → (pEnd F g s fr L).1 = -1 → pEnd F g s fr L = (-1, s + 1, L) := by
      intro s fr L hs z
      unfold pEnd at z ⊢
      split at z
      · exact absurd z (nn s hs)
      · rename_i w; rw [if_neg w]
    by_cases c1 : b = true ∧ skip T n k < n ∧ T (skip T n k) = 125
    · obtain ⟨rfl, c1⟩ := c1
      rw [pFld_end c1] at h ⊢
      rw [endE _ _ _ hs h, eFld_end c1, mis_tx.1]
      exact ⟨c1.1, by show k + 0 ≤ skip T n k + 1; omega, mis_tx.2⟩
    · simp only [pFld] at h ⊢
      simp only [eFld]
      rw [if_neg c1] at h ⊢
      rw [if_neg c1]
      by_cases c2 : wln T n (skip T n k) = 0 ∨ fdF F g (rowL T (skip T n k) (wln T n (skip T n k))) = -1 ∨ (fdF F g (rowL T (skip T n k) (wln T n (skip T n k)))).toNatClampNeg < fr ∨ missF F g fr (fdF F g (rowL T (skip T n k) (wln T n (skip T n k)))).toNatClampNeg = true
      · rw [if_pos c2] at h; exact absurd h (nn _ hs)
      rw [if_neg c2] at h ⊢
      by_cases c3 : ¬ (skip T n (skip T n k + wln T n (skip T n k)) < n ∧ T (skip T n (skip T n k + wln T n (skip T n k))) = 58)
      · rw [if_pos c3] at h
        exfalso
        have hwl : skip T n k + wln T n (skip T n k) ≤ n := wln_le hs
        exact nn _ (skip_le hwl) h
      rw [if_neg c3] at h ⊢
      have c3' := Classical.not_not.mp c3
      have hgs := skip_ge T n (skip T n k + wln T n (skip T n k))
      have hff : (fdF F g (rowL T (skip T n k) (wln T n (skip T n k)))).toNatClampNeg < F.length := fd_lt hF (fun z => c2 (Or.inr (Or.inl z)))
      generalize (fdF F g (rowL T (skip T n k) (wln T n (skip T n k)))).toNatClampNeg = f at *
      generalize hk3 : skip T n (skip T n k + wln T n (skip T n k)) + 1 = k3 at *
      by_cases c4 : (pVals T n F P k3 p f L).1 = -1
      · rw [if_neg (fun z => z c4)] at h ⊢
        obtain ⟨v1, v2, v3⟩ := vals_tx (Q := Q) (r := r) (k := k3) (p := p) (f := f) (L := L) hn hG (by omega) hff c4
        have hs2 := @skip_le T n _ v1
        have hg2 := skip_ge T n (pVals T n F P k3 p f L).2.1
        by_cases c5 : skip T n (pVals T n F P k3 p f L).2.1 < n ∧ T (skip T n (pVals T n F P k3 p f L).2.1) = 125
        · rw [if_pos c5] at h ⊢
          rw [endE _ _ _ hs2 h, if_neg (fun z => by have := z.2; rw [c5.2] at this; exact absurd this (by decide))]
          refine ⟨c5.1, ?_, fun e he => ?_⟩
          · rw [tx_app, tx_app, mis_tx.1, mis_tx.1]
            show _ ≤ skip T n _ + 1
            omega
          · rcases List.mem_append.mp he with z | z
            · rcases List.mem_append.mp z with y | y
              · exact mis_tx.2 e y
              · exact v3 e y
            · exact mis_tx.2 e z
        · rw [if_neg c5] at h ⊢
          by_cases c6 : skip T n (pVals T n F P k3 p f L).2.1 < n ∧ T (skip T n (pVals T n F P k3 p f L).2.1) = 44
          · rw [if_pos c6] at h ⊢
            rw [if_pos c6]
            obtain ⟨w1, w2, w3⟩ := ih _ _ _ _ r (by omega) h
            refine ⟨w1, ?_, fun e he => ?_⟩
            · rw [tx_app, tx_app, mis_tx.1]
              omega
            · rcases List.mem_append.mp he with z | z
              · rcases List.mem_append.mp z with y | y
                · exact mis_tx.2 e y
                · exact v3 e y
              · exact w3 e z
          · rw [if_neg c6] at h
            exact absurd h (nn _ hs2)
      · rw [if_pos c4] at h
        exact absurd h c4
end Way
theorem grp_tx {T : Nat → Int32} {n : Nat} {F : List SFd} (hF : F.length < 2 ^ 31) (hn : n < 2 ^ 31) : ∀ D, okTx T n F (pGrp T n F D) (eGrp T n F D) := by
  intro D
  induction D with
  | zero => intro k g p L r hk h; exact absurd h (by show ¬ (-3 : Int32) = -1; decide)
  | succ D ih =>
    intro k g p L r hk h
    have hs := @skip_le T n k hk
    have hg := skip_ge T n k
    simp only [pGrp] at h ⊢
    simp only [eGrp]
    by_cases c : skip T n k < n ∧ T (skip T n k) = 123
    · rw [if_pos c] at h ⊢
      obtain ⟨w1, w2, w3⟩ := fld_tx hF hn ih 200 (skip T n k + 1) 0 true L r c.1 h
      exact ⟨w1, by omega, w3⟩
    · rw [if_neg c] at h
      exact absurd h (nI_nm1 (by omega))
