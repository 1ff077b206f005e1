/-! the entries in the text's order, column by column: the same as those of the columns -/
theorem qtR_le {T : Nat → Int32} {n : Nat} (hn : n < 2 ^ 31) : ∀ d k a, k ≤ n → (qtR T n d k a).1 = -1 → (qtR T n d k a).2.1 ≤ n := by
  intro d
  induction d with
  | zero => intro k a hk h; exact absurd h (nI_nm1 (by omega))
  | succ d ih =>
    intro k a hk h
    simp only [qtR] at h ⊢
    by_cases c1 : k < n ∧ T k = 39
    · rw [if_pos c1]; exact c1.1
    rw [if_neg c1] at h ⊢
    by_cases c2 : ¬ k < n ∨ T k < 32 ∨ 126 < T k ∨ a.length = 255
    · rw [if_pos c2] at h; exact absurd h (nI_nm1 (by omega))
    rw [if_neg c2] at h ⊢
    by_cases c3 : T k = 92
    · rw [if_pos c3] at h ⊢
      by_cases c4 : (escL T n k).2.2 = -1
      · rw [if_pos c4] at h ⊢
        exact ih _ _ (esc_ok c4 hn (by omega)).2 h
      · rw [if_neg c4] at h; exact absurd h c4
    · rw [if_neg c3] at h ⊢
      exact ih _ _ (by omega) h
def colE (c : Nat) (E : List SEn) : List SEn := E.filter (fun e => decide (e.1 = c))
theorem colE_app (c : Nat) (E G : List SEn) : colE c (E ++ G) = colE c E ++ colE c G := List.filter_append ..
theorem cB_iff {F : List SFd} {c a : Nat} (hc : c < ncol F) : (cB F a ≤ c ↔ a ≤ lfC F c) := by
  obtain ⟨h1, h2, h3⟩ := lfC_ok hc
  constructor
  · intro h
    rcases Nat.lt_or_ge (lfC F c) a with z | z
    · have := cB_leaf h1 h2
      have := @cB_mono F (lfC F c + 1) a z
      omega
    · exact z
  · intro h
    have := @cB_mono F a (lfC F c) h
    omega
theorem range_filter1 (m i : Nat) (p : Nat → Bool) (hp : ∀ j, p j = decide (j = i)) : (List.range m).filter p = if i < m then [i] else [] := by
  induction m with
  | zero => rfl
  | succ m ih =>
    rw [List.range_succ, List.filter_append, ih]
    by_cases c : m = i
    · subst c
      rw [if_neg (by omega), if_pos (by omega), List.filter_cons, hp, decide_eq_true rfl]
      rfl
    · rw [List.filter_cons, hp, decide_eq_false c, if_neg (show ¬ (false = true) by decide)]
      by_cases d : i < m
      · rw [if_pos d, if_pos (by omega)]; rfl
      · rw [if_neg d, if_neg (by omega)]; rfl
theorem colE_mis {F : List SFd} {a b r c : Nat} {g : Int32} (hc : c < ncol F) : colE c (misE F a b r g) = if a ≤ lfC F c ∧ lfC F c < b then [(c, r, dG F g, 0, [])] else [] := by
  have i1 := cB_iff (a := a) hc
  have i2 := cB_iff (a := b) hc
  unfold colE misE
  rw [List.filter_map]
  by_cases d : cB F a ≤ c
  · rw [range_filter1 _ (c - cB F a) _ (fun j => by
      show decide (cB F a + j = c) = decide (j = c - cB F a)
      by_cases e : cB F a + j = c
      · rw [decide_eq_true e, decide_eq_true (by omega)]
      · rw [decide_eq_false e, decide_eq_false (by omega)])]
    by_cases e : c < cB F b
    · rw [if_pos (by omega), if_pos ⟨i1.mp d, by rcases Nat.lt_or_ge (lfC F c) b with z | z; exact z; have := i2.mpr z; omega⟩]
      show [(cB F a + (c - cB F a), _)] = _
      rw [show cB F a + (c - cB F a) = c by omega]
    · rw [if_neg (by omega), if_neg (fun z => by have := i2.mp (by omega : cB F b ≤ c); omega)]
      rfl
  · rw [if_neg (fun z => d (i1.mpr z.1))]
    have : (List.range (cB F b - cB F a)).filter ((fun e : SEn => decide (e.1 = c)) ∘ fun i => (cB F a + i, r, dG F g, (0 : Int64), ([] : List Int32))) = [] := by
      rw [List.filter_eq_nil_iff]
      intro j _
      show ¬ decide (cB F a + j = c) = true
      rw [decide_eq_true_eq]
      omega
    rw [this]
    rfl
/-- L grows by values in p, and values in these -/
def Ext (p : Nat) (L M : List SNd) : Prop := (∃ N, M = L ++ N) ∧ ∀ i, L.length ≤ i → i < M.length → (M.getD i (0, 0, 0, [])).1 = nI p ∨ ∃ j, L.length ≤ j ∧ j < i ∧ (M.getD i (0, 0, 0, [])).1 = nI j
theorem Ext.refl (p : Nat) (L : List SNd) : Ext p L L := ⟨⟨[], by rw [List.append_nil]⟩, fun i a b => by omega⟩
theorem Ext.len {p : Nat} {L M : List SNd} (h : Ext p L M) : L.length ≤ M.length := by
  obtain ⟨⟨N, rfl⟩, -⟩ := h
  rw [List.length_append]; omega
theorem Ext.at {p i : Nat} {L M : List SNd} (h : Ext p L M) (hi : i < L.length) : M.getD i (0, 0, 0, []) = L.getD i (0, 0, 0, []) := by
  obtain ⟨⟨N, rfl⟩, -⟩ := h
  rw [List.getD_eq_getElem?_getD, List.getD_eq_getElem?_getD, List.getElem?_append_left hi]
theorem Ext.trans {p : Nat} {L M K : List SNd} (h : Ext p L M) (k : Ext p M K) : Ext p L K := by
  have l1 := h.len
  refine ⟨?_, fun i a b => ?_⟩
  · obtain ⟨⟨N, rfl⟩, -⟩ := h
    obtain ⟨⟨N', rfl⟩, -⟩ := k
    exact ⟨N ++ N', by rw [List.append_assoc]⟩
  · rcases Nat.lt_or_ge i M.length with c | c
    · rw [k.at c]
      exact h.2 i a c
    · rcases k.2 i c b with z | ⟨j, j1, j2, j3⟩
      · exact Or.inl z
      · exact Or.inr ⟨j, by omega, j2, j3⟩
theorem Ext.kid {p f : Nat} {L M : List SNd} {v : Int64} {b : List Int32} (h : Ext L.length (L ++ [(nI p, nI f, v, b)]) M) : Ext p L M := by
  have hl : (L ++ [(nI p, nI f, v, b)]).length = L.length + 1 := by rw [List.length_append]; rfl
  refine ⟨?_, fun i a c => ?_⟩
  · obtain ⟨⟨N, rfl⟩, -⟩ := h
    exact ⟨[(nI p, nI f, v, b)] ++ N, by rw [List.append_assoc]⟩
  · by_cases e : i = L.length
    · subst e
      rw [h.at (by omega), ndNew]
      exact Or.inl rfl
    · rcases h.2 i (by omega) c with z | ⟨j, j1, j2, j3⟩
      · exact Or.inr ⟨L.length, Nat.le_refl _, by omega, z⟩
      · exact Or.inr ⟨j, by omega, j2, j3⟩
theorem kd_pre {L M : List SNd} {node f b : Nat} (h : ∀ i, i < b → M.getD i (0, 0, 0, []) = L.getD i (0, 0, 0, [])) : kd M node f b = kd L node f b := by
  unfold kd
  exact List.filter_congr (fun i hi => by rw [h i (List.mem_range.mp hi)])
theorem kd_ext {p node f : Nat} {L M : List SNd} (h : Ext p L M) (hM : M.length < 2 ^ 31) (hp : p < L.length) (hn : node < L.length) (hne : node ≠ p) : kd M node f M.length = kd L node f L.length := by
  have hl := h.len
  have key : ∀ j, L.length + j ≤ M.length → kd M node f (L.length + j) = kd L node f L.length := by
    intro j
    induction j with
    | zero => intro _; exact kd_pre (fun i hi => h.at hi)
    | succ j ih =>
      intro hj
      rw [← Nat.add_assoc, kd_s, ih (by omega), if_neg, List.append_nil]
      rintro ⟨-, z, -⟩
      rcases h.2 (L.length + j) (by omega) (by omega) with w | ⟨i, i1, i2, w⟩
      · rw [w, nI_eq (by omega) (by omega)] at z; omega
      · rw [w, nI_eq (by omega) (by omega)] at z; omega
  have := key (M.length - L.length) (by omega)
  rw [show L.length + (M.length - L.length) = M.length by omega] at this
  exact this
theorem kd_one {p f f2 : Nat} {L : List SNd} {v : Int64} {b : List Int32} (hp : p < L.length) (hf : f < 2 ^ 31) (hf2 : f2 < 2 ^ 31) : kd (L ++ [(nI p, nI f, v, b)]) p f2 (L ++ [(nI p, nI f, v, b)]).length = kd L p f2 L.length ++ (if f2 = f then [L.length] else []) := by
  rw [List.length_append]
  show kd _ p f2 (L.length + 1) = _
  rw [kd_s, ndNew, kd_pre (fun i hi => ndApp hi)]
  congr 1
  by_cases c : f2 = f
  · rw [if_pos ⟨hp, rfl, by rw [c]⟩, if_pos c]
  · rw [if_neg (fun z => c ((nI_eq hf hf2).mp z.2.2).symm), if_neg c]
theorem kd_mem {L : List SNd} {node f b k : Nat} (h : k ∈ kd L node f b) : node < k ∧ k < b := by
  unfold kd at h
  have := List.mem_filter.mp h
  exact ⟨(of_decide_eq_true this.2).1, List.mem_range.mp this.1⟩
theorem goK_cg {g g' : Nat → Nat → List SEn} {R : Nat} : ∀ {ks : List Nat} {lv : Nat}, (∀ k, k ∈ ks → ∀ lv, g k lv = g' k lv) → goK g R ks lv = goK g' R ks lv := by
  intro ks
  induction ks with
  | nil => intro lv _; rfl
  | cons k ks ih =>
    intro lv h
    show g k lv ++ goK g R ks R = g' k lv ++ goK g' R ks R
    rw [h k List.mem_cons_self, ih (fun j hj => h j (List.mem_cons_of_mem _ hj))]
/-- what comes of one value of field f, m fields above the leaf -/
def bodyK (F : List SFd) (L : List SNd) (c leaf m f k lv : Nat) : List SEn := if m = 0 then [(c, lv, dG F (nI leaf), (L.getD k (0, 0, 0, [])).2.2.1, (L.getD k (0, 0, 0, [])).2.2.2)] else strF F L c leaf (m - 1) k lv (dG F (nI f))
theorem strF_eq {F : List SFd} {L : List SNd} {c leaf m node r d : Nat} : strF F L c leaf m node r d = if kd L node (ancN F m leaf) L.length = [] then [(c, r, d, 0, [])] else goK (bodyK F L c leaf m (ancN F m leaf)) (rF F (ancN F m leaf)) (kd L node (ancN F m leaf) L.length) r := by
  cases m with
  | zero => rfl
  | succ m => rfl
theorem strF_ext {F : List SFd} {L M : List SNd} {c leaf p : Nat} (h : Ext p L M) (hM : M.length < 2 ^ 31) (hp : p < L.length) : ∀ m node r d, p < node → node < L.length → strF F M c leaf m node r d = strF F L c leaf m node r d := by
  intro m
  induction m with
  | zero =>
    intro node r d h1 h2
    rw [strF_eq, strF_eq, kd_ext h hM hp h2 (by omega)]
    split
    · rfl
    · refine goK_cg (fun k hk lv => ?_)
      unfold bodyK
      rw [if_pos rfl, if_pos rfl, h.at (kd_mem hk).2]
  | succ m ih =>
    intro node r d h1 h2
    rw [strF_eq, strF_eq, kd_ext h hM hp h2 (by omega)]
    split
    · rfl
    · refine goK_cg (fun k hk lv => ?_)
      have := kd_mem hk
      unfold bodyK
      rw [if_neg (by omega), if_neg (by omega)]
      exact ih k _ _ (by omega) this.2
theorem bodyK_ext {F : List SFd} {L M : List SNd} {c leaf p m f k lv : Nat} (h : Ext p L M) (hM : M.length < 2 ^ 31) (hp : p < L.length) (hk : p < k) (hk2 : k < L.length) : bodyK F M c leaf m f k lv = bodyK F L c leaf m f k lv := by
  unfold bodyK
  split
  · rw [h.at hk2]
  · exact strF_ext h hM hp _ k _ _ hk hk2
/-! the way to a leaf -/
theorem anc_dsc {F : List SFd} (hw : WfS F) : ∀ m f, f < F.length → m < upS wOne (fPa F) (nI f) → dsc F (ancN F m f) f := by
  have hF := hw.1
  intro m
  induction m with
  | zero => intro f hf _; exact dsc_self hw hf
  | succ m ih =>
    intro f hf h
    have h0 := h
    rw [upS_at hw.2.2.1 hf] at h
    have h : m + 1 < 1 + upS wOne (fPa F) (fPa F f) := h
    rcases hw.2.2.1.2 f hf with z | ⟨g, hg, z⟩
    · rw [z, upS_neg] at h; omega
    · have e : ancN F (m + 1) f = ancN F m g := by show ancN F m (fPa F f).toNatClampNeg = _; rw [z, nI_clamp (by omega)]
      rw [e]
      rw [z] at h
      exact dsc_in hw hf hg z (ih g (by omega) (by omega))
/-- a field within f, f being m levels up -/
theorem anc_of {F : List SFd} (hw : WfS F) {f : Nat} : ∀ h, h < F.length → dsc F f h → ancN F (upS wOne (fPa F) (nI h) - upS wOne (fPa F) (nI f)) h = f ∧ upS wOne (fPa F) (nI f) ≤ upS wOne (fPa F) (nI h) := by
  have hF := hw.1
  intro h
  induction h using Nat.strongRecOn with
  | ind h ih =>
    intro hh d
    by_cases e : h = f
    · subst e
      exact ⟨by rw [Nat.sub_self]; rfl, Nat.le_refl _⟩
    · obtain ⟨g, g1, g2, g3⟩ := dsc_pa hw hh d e
      have i := ih g g1 (by omega) g3
      have u : upS wOne (fPa F) (nI h) = 1 + upS wOne (fPa F) (nI g) := by rw [upS_at hw.2.2.1 hh, g2]; rfl
      rw [u, show 1 + upS wOne (fPa F) (nI g) - upS wOne (fPa F) (nI f) = (upS wOne (fPa F) (nI g) - upS wOne (fPa F) (nI f)) + 1 by omega]
      refine ⟨?_, by omega⟩
      show ancN F _ (fPa F h).toNatClampNeg = f
      rw [g2, nI_clamp (by omega)]
      exact i.1
/-- the field of a group on the way to a leaf in it -/
theorem way_kid {F : List SFd} {g : Int32} {h : Nat} (hw : WfS F) (hg : gOk F.length g) (hh : h < F.length) (h1 : fG g ≤ h) (h2 : h < pG F g) : ∃ f, f < F.length ∧ fPa F f = g ∧ f ≤ h ∧ h < pB F f ∧ ancN F (upS wOne (fPa F) (nI h) - 1 - upS wOne (fPa F) g) h = f := by
  have hF := hw.1
  have key : ∀ h, h < F.length → (g = -1 ∨ ∃ q, g = nI q ∧ q < F.length ∧ dsc F q h ∧ h ≠ q) → ∃ f, f < F.length ∧ fPa F f = g ∧ dsc F f h := by
    intro h
    induction h using Nat.strongRecOn with
    | ind h ih =>
      intro hh z
      by_cases e : fPa F h = g
      · exact ⟨h, hh, e, dsc_self hw hh⟩
      · rcases hw.2.2.1.2 h hh with w | ⟨u, u1, u2⟩
        · rcases z with z | ⟨q, q1, q2, q3, q4⟩
          · exact absurd (w.trans z.symm) e
          · obtain ⟨u, u1, u2, -⟩ := dsc_pa hw hh q3 q4
            rw [w] at u2; exact absurd u2.symm (nI_nm1 (by omega))
        · obtain ⟨f, f1, f2, f3⟩ := ih u u1 (by omega) (by
            rcases z with z | ⟨q, q1, q2, q3, q4⟩
            · exact Or.inl z
            · refine Or.inr ⟨q, q1, q2, ?_, fun w => ?_⟩
              · obtain ⟨v, v1, v2, v3⟩ := dsc_pa hw hh q3 q4
                rw [u2, nI_eq (by omega) (by omega)] at v2
                rw [v2]; exact v3
              · rw [w, ← q1] at u2; exact e u2)
          exact ⟨f, f1, f2, dsc_in hw hh u1 u2 f3⟩
  obtain ⟨f, f1, f2, f3⟩ := key h hh (by
    rcases hg with z | ⟨q, q1, z⟩
    · exact Or.inl z
    · subst z
      unfold fG at h1
      unfold pG at h2
      rw [if_neg (nI_nm1 (by omega)), nI_clamp (by omega)] at h1 h2
      exact Or.inr ⟨q, rfl, q1, (dsc_iff hw q1 hh).mpr ⟨by omega, h2⟩, by omega⟩)
  have a := anc_of hw h hh f3
  have i := (dsc_iff hw f1 hh).mp f3
  have u : upS wOne (fPa F) (nI f) = 1 + upS wOne (fPa F) g := by rw [upS_at hw.2.2.1 f1, f2]; rfl
  refine ⟨f, f1, f2, i.1, i.2, ?_⟩
  rw [u] at a
  rw [show upS wOne (fPa F) (nI h) - 1 - upS wOne (fPa F) g = upS wOne (fPa F) (nI h) - (1 + upS wOne (fPa F) g) by omega]
  exact a.1
theorem pB_leaf {F : List SFd} {f : Nat} (hw : WfS F) (hf : f < F.length) (ht : fTy F f ≠ 4) : pB F f = f + 1 := by
  have hF := hw.1
  have h1 := pB_gt hw hf
  have h2 := pB_le hf
  rcases Nat.lt_or_ge (f + 1) (pB F f) with c | c
  · exfalso
    have d := (dsc_iff hw hf (by omega : f + 1 < F.length)).mpr ⟨by omega, c⟩
    obtain ⟨g, g1, g2, g3⟩ := dsc_pa hw (by omega) d (by omega)
    have : g = f := by have := dsc_le hw (by omega) g3; omega
    subst this
    exact ht (hw.2.2.2.2.1 (g + 1) g (by omega) g2 (by omega)).1
  · omega
