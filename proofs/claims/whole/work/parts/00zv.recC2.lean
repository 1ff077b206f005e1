/-! the class reads a RECORD: all of it -/
def okGC (e0 t0 : Nat) (q : Nat) (T : Nat → Int32) (n : Nat) (F : List SFd) (s D : Nat) (SG : (St → Prop) → Nat → Int32 → Int32 → Int32 → St → Prop) : Prop := ∀ (post : St → Prop) (x : St) (k p : Nat) (g : Int32) (L : List SNd) (r : Nat) (E : List SEn) (t : Nat), RkC e0 t0 x q T n F s k E t → gIs F g → 18 ≤ D + upS wOne (fPa F) g → r < 128 → (∀ y, outC e0 t0 x y q T n F s k (pGrp T n F D k g p L) (E ++ eGrp T n F D k g p L r) → post y) → SG post 36 g (nI r) (nI (upS wOne (fPa F) g)) x
theorem pGrp_sk {T : Nat → Int32} {n : Nat} {F : List SFd} {D k p : Nat} {g : Int32} {L : List SNd} : pGrp T n F (D + 1) (skip T n k) g p L = pGrp T n F (D + 1) k g p L := by
  simp only [pGrp]
  rw [skip_skip]
theorem eGrp_sk {T : Nat → Int32} {n : Nat} {F : List SFd} {D k p r : Nat} {g : Int32} {L : List SNd} : eGrp T n F (D + 1) (skip T n k) g p L r = eGrp T n F (D + 1) k g p L r := by
  simp only [eGrp]
  rw [skip_skip]
theorem d_grpC {e0 t0 : Nat} {q : Nat} {T : Nat → Int32} {n : Nat} {F : List SFd} {s : Nat} (hs : SchId s) (hw : WfS F) (hq : skRow q) (hn : n ≤ 4000) : ∀ D d, 3 * D ≤ d → okGC e0 t0 q T n F s D (wr_Rec_readGroup d).1 := by
  have hF := hw.1
  intro D
  induction D with
  | zero =>
    intro d _ post x k p g L r E t h hg hd
    have := depI_le hw hg
    omega
  | succ D ih =>
    intro d hd post x k p g L r E t h hg hdep hr pq
    have hdp := depI_le hw hg
    obtain ⟨d1, rfl⟩ : ∃ d1, d = d1 + 3 := ⟨d - 3, by omega⟩
    show wb_Rec_readGroup post (wr_Rec_readGroup (d1 + 2)).1 (wr_Rec_readGroup (d1 + 2)).2.1 (wr_Rec_readGroup (d1 + 2)).2.2 36 g (nI r) (nI (upS wOne (fPa F) g)) x
    have hO : ∀ f, f < F.length → fPa F f = g → okO e0 t0 q T n F (pGrp T n F D) (eGrp T n F D) s p f (upS wOne (fPa F) g) (wr_Rec_readGroup (d1 + 1)).2.1 := by
      intro f hf e post x k L r E t h hr pq
      show wb_Rec_readOne post (wr_Rec_readGroup d1).1 (wr_Rec_readGroup d1).2.1 (wr_Rec_readGroup d1).2.2 36 (nI f) (nI r) (nI (upS wOne (fPa F) g)) x
      by_cases c : fTy F f = 4
      · unfold wb_Rec_readOne
        have hv := h.2.1
        refine ⟨s, hv.2.2.2.1, by rw [hv.1.s hs (by decide) (by decide)]; exact vp_in_nI (by show _ < 128; omega) (by decide), ?_⟩
        rw [rA_nI (by omega), (hv.2.1.2.2.2.1 f hf).2.1]
        have ed : upS wOne (fPa F) (nI f) = upS wOne (fPa F) g + 1 := by
          rw [upS_at hw.2.2.1 hf, e]
          show 1 + _ = _
          omega
        have hgf : gIs F (nI f) := Or.inr ⟨f, hf, rfl, c⟩
        have hdf := depI_le hw hgf
        refine bn_t c ?_
        rw [nI_1, ← ed]
        have e1 : pVal T n F (pGrp T n F D) k p f L = pGrp T n F D (skip T n k) (nI f) L.length (L ++ [(nI p, nI f, 0, [])]) := by unfold pVal; rw [if_pos c]
        have e2 : eVal T n F (pGrp T n F D) (eGrp T n F D) k p f L r = eGrp T n F D (skip T n k) (nI f) L.length (L ++ [(nI p, nI f, 0, [])]) r := by unfold eVal; rw [if_pos c]
        rw [e1, e2] at pq
        cases D with
        | zero => omega
        | succ D =>
          rw [pGrp_sk, eGrp_sk] at pq
          exact ih d1 (by omega) _ x k _ (nI f) _ r E t h hgf (by omega) hr pq
      · obtain ⟨h1, h2, h3, h4, h5, h6⟩ := h
        have hk := h1.2.2.2
        refine d_leaf (P := pGrp T n F D) (Q := eGrp T n F D) (p := p) (L := L) (e0 := e0) (t0 := t0) hs hw hq h1 h2 hf c hn h3 h6.1 h5 (by omega) hr (fun z y u g1 g2 g3 g4 g5 g6 => pq y ⟨g1, Or.inl ⟨z, g6, u, g2, g3, by omega, ?_, ?_, by omega, by rw [tx_app, g4, h6.2]⟩⟩) (fun z y j g1 g2 => pq y ⟨g1, Or.inr ⟨z, j, g2⟩⟩)
        · have el : (eVal T n F (pGrp T n F D) (eGrp T n F D) k p f L r).length = 1 := by unfold eVal; rw [if_neg c]; rfl
          rw [List.length_append, el]
          omega
        · rw [List.length_append]; omega
    refine d_group (P := pGrp T n F D) (Q := eGrp T n F D) (p := p) (L := L) hs hw hq hn hg.ok hdp (fun f hf e post x k L r E t h hr pq => ?_) h hr pq
    show wb_Rec_readValues post (wr_Rec_readGroup (d1 + 1)).1 (wr_Rec_readGroup (d1 + 1)).2.1 (wr_Rec_readGroup (d1 + 1)).2.2 36 (nI f) (nI r) (nI (upS wOne (fPa F) g)) x
    exact d_rows hs hw hq hn hf (hO f hf e) h hr pq
/-! chains of entries -/
def Chn (nx : Nat → Int32) : Int32 → List Nat → Prop
  | h, [] => h = -1
  | h, i :: l => h = nI i ∧ Chn nx (nx i) l
/-- the places of the entries of a column -/
def idx (E : List SEn) (c : Nat) : List Nat := (List.range E.length).filter (fun i => decide ((E.getD i en0).1 = c))
def lastI (l : List Nat) : Int32 := if l = [] then -1 else nI (l.getLastD 0)
theorem idx_mem {E : List SEn} {c i : Nat} : i ∈ idx E c ↔ i < E.length ∧ (E.getD i en0).1 = c := by
  unfold idx
  rw [List.mem_filter, List.mem_range]
  constructor
  · rintro ⟨a, b⟩; exact ⟨a, of_decide_eq_true b⟩
  · rintro ⟨a, b⟩; exact ⟨a, decide_eq_true b⟩
theorem idx_app {E : List SEn} {z : SEn} {c : Nat} : idx (E ++ [z]) c = idx E c ++ (if z.1 = c then [E.length] else []) := by
  unfold idx
  rw [List.length_append]
  show (List.range (E.length + 1)).filter _ = _
  rw [List.range_succ, List.filter_append]
  congr 1
  · refine List.filter_congr (fun i hi => ?_)
    rw [enApp (List.mem_range.mp hi)]
  · by_cases d : z.1 = c
    · rw [if_pos d, List.filter_cons, enNew, decide_eq_true d]; rfl
    · rw [if_neg d, List.filter_cons, enNew, decide_eq_false d]; rfl
theorem Chn.cg {nx ny : Nat → Int32} : ∀ {l : List Nat} {h : Int32}, Chn nx h l → (∀ i, i ∈ l → ny i = nx i) → Chn ny h l := by
  intro l
  induction l with
  | nil => exact fun h _ => h
  | cons i l ih =>
    intro h c e
    refine ⟨c.1, ?_⟩
    rw [e i List.mem_cons_self]
    exact ih c.2 (fun j hj => e j (List.mem_cons_of_mem _ hj))
theorem Chn.app {nx : Nat → Int32} {m : Nat} : ∀ {l : List Nat} {h : Int32}, Chn nx h l → l ≠ [] → (∀ i, i ∈ l → i < m) → l.Pairwise (· < ·) → Chn (upd (upd nx m (-1)) (l.getLastD 0) (nI m)) h (l ++ [m]) := by
  intro l
  induction l with
  | nil => intro h _ e; exact absurd rfl e
  | cons i l ih =>
    intro h c _ hl hp
    have him := hl i List.mem_cons_self
    refine ⟨c.1, ?_⟩
    cases l with
    | nil =>
      show Chn _ (upd (upd nx m (-1)) i (nI m) i) [m]
      rw [upd_at]
      refine ⟨rfl, ?_⟩
      show upd (upd nx m (-1)) i (nI m) m = -1
      rw [upd_ne (by omega), upd_at]
    | cons j l =>
      have hp := List.pairwise_cons.mp hp
      have hlast : (j :: l).getLastD 0 ∈ j :: l := by
        rw [List.getLastD_eq_getLast?, List.getLast?_eq_some_getLast (by simp)]
        exact List.getLast_mem _
      have hij := hp.1 _ hlast
      have e1 : (i :: j :: l).getLastD 0 = (j :: l).getLastD 0 := rfl
      rw [e1, upd_ne (by omega), upd_ne (by omega)]
      exact ih c.2 (by simp) (fun k hk => hl k (List.mem_cons_of_mem _ hk)) hp.2
theorem idx_sort (E : List SEn) (c : Nat) : (idx E c).Pairwise (· < ·) := List.Pairwise.filter _ List.pairwise_lt_range
/-- the chains of the class's records, of the first m entries -/
def KpC (x : St) (E : List SEn) (m : Nat) : Prop := ∀ c, c < 64 → Chn (fA x 41) (fA x 43 c) (idx (E.take m) c) ∧ fA x 44 c = lastI (idx (E.take m) c)
theorem tk1 {E : List SEn} {m : Nat} (h : m < E.length) : E.take (m + 1) = E.take m ++ [E.getD m en0] := by
  rw [List.take_succ_eq_append_getElem h, List.getD_eq_getElem?_getD, List.getElem?_eq_getElem h]
  rfl
theorem lastI_mem {l : List Nat} (h : l ≠ []) : l.getLastD 0 ∈ l := by
  rw [List.getLastD_eq_getLast?, List.getLast?_eq_some_getLast h]
  exact List.getLast_mem _
theorem lastI_app {l : List Nat} {m : Nat} : lastI (l ++ [m]) = nI m := by
  unfold lastI
  rw [if_neg (by simp), List.getLastD_eq_getLast?, List.getLast?_append]
  rfl
theorem idx_tk {E : List SEn} {m c i : Nat} (h : m ≤ E.length) : i ∈ idx (E.take m) c ↔ i < m ∧ (E.getD i en0).1 = c := by
  rw [idx_mem, List.length_take, Nat.min_eq_left h]
  constructor
  · rintro ⟨a, b⟩
    rw [List.getD_eq_getElem?_getD, List.getElem?_take_of_lt a, ← List.getD_eq_getElem?_getD] at b
    exact ⟨a, b⟩
  · rintro ⟨a, b⟩
    rw [List.getD_eq_getElem?_getD, List.getElem?_take_of_lt a, ← List.getD_eq_getElem?_getD]
    exact ⟨a, b⟩
theorem kp_step {nx hd tl : Nat → Int32} {E : List SEn} {m : Nat} (hm : m < E.length) (h : ∀ c, c < 64 → Chn nx (hd c) (idx (E.take m) c) ∧ tl c = lastI (idx (E.take m) c)) :
    (idx (E.take m) (E.getD m en0).1 = [] → ∀ c, c < 64 → Chn (upd nx m (-1)) (upd hd (E.getD m en0).1 (nI m) c) (idx (E.take (m + 1)) c) ∧ upd tl (E.getD m en0).1 (nI m) c = lastI (idx (E.take (m + 1)) c)) ∧
    (idx (E.take m) (E.getD m en0).1 ≠ [] → ∀ c, c < 64 → Chn (upd (upd nx m (-1)) ((idx (E.take m) (E.getD m en0).1).getLastD 0) (nI m)) (hd c) (idx (E.take (m + 1)) c) ∧ upd tl (E.getD m en0).1 (nI m) c = lastI (idx (E.take (m + 1)) c)) := by
  have hl : (E.take m).length = m := by rw [List.length_take]; omega
  have ei : ∀ c, idx (E.take (m + 1)) c = idx (E.take m) c ++ (if (E.getD m en0).1 = c then [m] else []) := fun c => by rw [tk1 hm, idx_app, hl]
  have lt : ∀ c i, i ∈ idx (E.take m) c → i < m := fun c i hi => ((idx_tk (by omega)).mp hi).1
  constructor
  · intro e c hc
    rw [ei c]
    by_cases d : (E.getD m en0).1 = c
    · subst d
      rw [if_pos rfl, upd_at, upd_at, lastI_app, e]
      exact ⟨⟨rfl, upd_at⟩, rfl⟩
    · rw [if_neg d, List.append_nil, upd_ne (fun z => d z.symm), upd_ne (fun z => d z.symm)]
      exact ⟨(h c hc).1.cg (fun i hi => upd_ne (by have := lt c i hi; omega)), (h c hc).2⟩
  · intro e c hc
    rw [ei c]
    by_cases d : (E.getD m en0).1 = c
    · subst d
      rw [if_pos rfl, upd_at, lastI_app]
      exact ⟨(h _ hc).1.app e (fun i hi => lt _ i hi) (idx_sort _ _), rfl⟩
    · rw [if_neg d, List.append_nil, upd_ne (fun z => d z.symm)]
      refine ⟨(h c hc).1.cg (fun i hi => ?_), (h c hc).2⟩
      have h1 := (idx_tk (by omega)).mp (lastI_mem e)
      have h2 := (idx_tk (by omega)).mp hi
      rw [upd_ne (fun z => d (by rw [z] at h2; exact h1.2.symm.trans h2.2)), upd_ne (by omega)]
