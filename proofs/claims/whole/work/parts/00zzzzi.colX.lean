/-! chunks as lists of entries -/
theorem endP_cg {p q : Int32 → Bool} {T U : Nat → Int32} {n : Nat} (h : ∀ i, i < n → p (T i) = q (U i)) : ∀ d k, n ≤ k + d → endP p T n k = endP q U n k := by
  intro d
  induction d with
  | zero => intro k hk; rw [endP_no (fun z => by omega), endP_no (fun z => by omega)]
  | succ d ih =>
    intro k hk
    by_cases c : k < n ∧ p (T k) = true
    · rw [endP_go c.1 c.2, endP_go c.1 ((h k c.1).symm.trans c.2), ih (k + 1) (by omega)]
    · rw [endP_no c, endP_no (fun z => c ⟨z.1, (h k z.1).trans z.2⟩)]
theorem sm_cg {R S : Nat → Int32} {n k : Nat} (h : ∀ i, i < n → R i = S i) (hk : k < n) : sm R n k = sm S n k := by
  unfold sm
  rw [endP_cg (p := fun v => decide (v = R k)) (q := fun v => decide (v = S k)) (T := R) (U := S) (fun i hi => by rw [h i hi, h k hk]) n k (by omega)]
theorem grF_cg {R S : Nat → Int32} {n : Nat} (h : ∀ i, i < n → R i = S i) : ∀ d k, grF R n d k = grF S n d k := by
  intro d
  induction d with
  | zero => intro k; rfl
  | succ d ih =>
    intro k
    simp only [grF]
    by_cases c : k + 8 < n
    · rw [sm_cg h c, ih]
    · rw [if_neg (fun z => c z.1), if_neg (fun z => c z.1)]
theorem runF_cg {R S : Nat → Int32} {n w : Nat} (h : ∀ i, i < n → R i = S i) : ∀ d k, runF R n w d k = runF S n w d k := by
  intro d
  induction d with
  | zero => intro k; rfl
  | succ d ih =>
    intro k
    simp only [runF]
    by_cases c : n ≤ k
    · rw [if_pos c, if_pos c]
    · have eg : gr R n k = gr S n k := grF_cg h n k
      have es : gS R n k w = gS S n k w := by
        funext b
        unfold gS
        by_cases c2 : k + b / w < n
        · rw [if_pos c2, if_pos c2, h _ c2]
        · rw [if_neg c2, if_neg c2]
      rw [if_neg c, if_neg c, sm_cg h (by omega), eg, es, h k (by omega), ih, ih]
theorem lvB_cg {R S : Nat → Int32} {n most : Nat} (h : ∀ i, i < n → R i = S i) : lvB R n most = lvB S n most := by
  unfold lvB runB
  rw [runF_cg h]
theorem pageB_cg {ty mr md E : Nat} {R R' D D' : Nat → Int32} {P : List PV} (h : ∀ i, i < E → R i = R' i) (k : ∀ i, i < E → D i = D' i) : pageB ty mr md R D E P = pageB ty mr md R' D' E P := by
  unfold pageB bodyB
  rw [lvB_cg h, lvB_cg k]
def pvX (md : Nat) (l : List SEn) : List PV := (l.filter (fun e => decide (e.2.2.1 = md))).map (fun e => (e.2.2.2.1, e.2.2.2.2))
theorem pvX_app {md : Nat} {l m : List SEn} : pvX md (l ++ m) = pvX md l ++ pvX md m := by
  unfold pvX
  rw [List.filter_append, List.map_append]
theorem pvX_map {E : List SEn} {md : Nat} : ∀ es : List Nat, pvs E (vs E md es) = pvX md (es.map (en E)) := by
  intro es
  induction es with
  | nil => rfl
  | cons i es ih =>
    unfold pvs vs pvX at ih ⊢
    rw [List.map_cons, List.filter_cons, List.filter_cons]
    by_cases c : (en E i).2.2.1 = md
    · simp only [c, decide_true, if_true, List.map_cons]
      rw [ih]
    · simp only [c, decide_false, Bool.false_eq_true, if_false]
      exact ih
theorem vs_len {E : List SEn} {md : Nat} {es : List Nat} : (vs E md es).length = (pvX md (es.map (en E))).length := by
  rw [← pvX_map]
  unfold pvs
  rw [List.length_map]
theorem txI_map {E : List SEn} : ∀ es : List Nat, txI E es = tx (es.map (en E)) := by
  intro es
  induction es with
  | nil => rfl
  | cons i es ih => show _ + txI E es = _ + tx (es.map (en E)); rw [ih]
theorem getD_mapE {E : List SEn} {es : List Nat} {k : Nat} (h : k < es.length) : (es.map (en E)).getD k en0 = en E (es.getD k 0) := by
  rw [List.getD_eq_getElem?_getD, List.getD_eq_getElem?_getD, List.getElem?_map, List.getElem?_eq_getElem h]
  rfl
/-- a page's bytes out of its entries -/
def pgX (ty mr md : Nat) (l : List SEn) : List Nat := pageB ty mr md (fun k => nI (l.getD k en0).2.1) (fun k => nI (l.getD k en0).2.2.1) l.length (pvX md l)
theorem pgX_map {E : List SEn} {ty mr md : Nat} {es : List Nat} : pageB ty mr md (fun k => nI (en E (es.getD k 0)).2.1) (fun k => nI (en E (es.getD k 0)).2.2.1) es.length (pvs E (vs E md es)) = pgX ty mr md (es.map (en E)) := by
  unfold pgX
  rw [pvX_map, List.length_map]
  exact pageB_cg (fun i hi => by rw [getD_mapE hi]) (fun i hi => by rw [getD_mapE hi])
/-- how many rows come into a page -/
def flX (most : Nat) : Bool → Nat → Nat → List (List SEn) → Nat
  | _, _, _, [] => 0
  | fs, n, b, r :: L => if r.length ≤ 1000 ∧ (fs = true ∨ n + r.length ≤ most ∧ b + tx r ≤ 20000) then 1 + flX most false (n + r.length) (b + tx r) L else 0
theorem flX_le {most : Nat} : ∀ L fs n b, flX most fs n b L ≤ L.length := by
  intro L
  induction L with
  | nil => intro fs n b; exact Nat.le_refl _
  | cons r L ih =>
    intro fs n b
    simp only [flX]
    split
    · have := ih false (n + r.length) (b + tx r); rw [List.length_cons]; omega
    · exact Nat.zero_le _
def chX (ty mr md most : Nat) : Nat → List (List SEn) → Option (List Nat × Nat)
  | 0, _ => some ([], 0)
  | d + 1, L => if L.length = 0 then some ([], 0) else if flX most true 0 0 L = 0 then none else
    match chX ty mr md most d (L.drop (flX most true 0 0 L)) with
    | none => none
    | some (B, k) => some (pgX ty mr md (L.take (flX most true 0 0 L)).flatten ++ B, k + 1)
def chBX (ty md bl pg : Nat) (l : List SEn) : List Nat := varB bl ++ (varB pg ++ (varB l.length ++ (varB (l.length - (pvX md l).length) ++ bndB ty (pvX md l))))
theorem chBX_map {E : List SEn} {ty md bl pg : Nat} {es : List Nat} : chB E ty md bl pg es = chBX ty md bl pg (es.map (en E)) := by
  unfold chB chBX
  rw [vs_len, pvX_map, List.length_map]
theorem tx_none : ∀ l : List SEn, (∀ e, e ∈ l → e.2.2.2.2 = []) → tx l = 0 := by
  intro l
  induction l with
  | nil => intro _; rfl
  | cons e l il => intro hl; show _ + tx l = 0; rw [il (fun a ha => hl a (List.mem_cons_of_mem _ ha)), hl e List.mem_cons_self]; rfl
theorem flN_map {E : List SEn} {ty most : Nat} : ∀ (A : List (List Nat)) fs n b, (ty ≠ 3 → ∀ r, r ∈ A → ∀ i, i ∈ r → (en E i).2.2.2.2 = []) → flN E ty most fs n b A = flX most fs n b (A.map (List.map (en E))) := by
  intro A
  induction A with
  | nil => intro fs n b _; rfl
  | cons r A ih =>
    intro fs n b h
    have er : rT E ty r = tx (r.map (en E)) := by
      unfold rT
      by_cases c : ty = 3
      · rw [if_pos c, txI_map]
      · rw [if_neg c]
        refine (tx_none _ (fun e he => ?_)).symm
        obtain ⟨i, hi, rfl⟩ := List.mem_map.mp he
        exact h c r List.mem_cons_self i hi
    rw [List.map_cons]
    simp only [flN, flX]
    rw [er, List.length_map, ih _ _ _ (fun c q hq => h c q (List.mem_cons_of_mem _ hq))]
theorem flX_ok {most : Nat} (hm : most ≤ 1000) : ∀ (L : List (List SEn)) fs n b, n ≤ 1000 → b ≤ 20000 → (fs = true → n = 0 ∧ b = 0 ∧ ∀ r, r ∈ L → tx r ≤ 20000) → n + (L.take (flX most fs n b L)).flatten.length ≤ 1000 ∧ b + tx (L.take (flX most fs n b L)).flatten ≤ 20000 := by
  intro L
  induction L with
  | nil => intro fs n b h1 h2 _; exact ⟨h1, h2⟩
  | cons r L ih =>
    intro fs n b h1 h2 h3
    simp only [flX]
    split
    · rename_i w
      have hn : n + r.length ≤ 1000 := by
        rcases w.2 with z | z
        · have := h3 z; omega
        · omega
      have hb : b + tx r ≤ 20000 := by
        rcases w.2 with z | z
        · have q := h3 z
          have := q.2.2 r List.mem_cons_self
          omega
        · omega
      have q := ih false (n + r.length) (b + tx r) hn hb (fun z => absurd z (by decide))
      rw [Nat.add_comm 1, List.take_succ_cons, List.flatten_cons, List.length_append, tx_app]
      omega
    · exact ⟨h1, h2⟩
