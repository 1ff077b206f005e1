/-! the model's chunk out of the lists of entries -/
def rwX (RS : List (List SEn)) (c r e : Nat) : List (List SEn) := ((RS.drop r).take (e - r)).map (colE c)
theorem colE_flat {c : Nat} : ∀ L : List (List SEn), colE c L.flatten = (L.map (colE c)).flatten := by
  intro L
  induction L with
  | nil => rfl
  | cons a L ih => rw [List.flatten_cons, colE_app, ih, List.map_cons, List.flatten_cons]
section
variable {RS : List (List SEn)} {c : Nat}
theorem cs_rw {r e : Nat} (h : r ≤ e) : (cs RS c r e).map (en RS.flatten) = (rwX RS c r e).flatten := by
  rw [cs_map h, colE_flat]
  rfl
theorem cs_len {r e : Nat} (h : r ≤ e) : (cs RS c r e).length = (rwX RS c r e).flatten.length := by
  rw [← cs_rw h, List.length_map]
theorem cs_tx {r e : Nat} (h : r ≤ e) : txI RS.flatten (cs RS c r e) = tx (rwX RS c r e).flatten := by
  rw [txI_map, cs_rw h]
theorem rwX_nil {r e : Nat} (h : e ≤ r) : rwX RS c r e = [] := by
  unfold rwX
  rw [show e - r = 0 from by omega]
  rfl
theorem rwX_len {r e : Nat} (he : e ≤ RS.length) : (rwX RS c r e).length = e - r := by
  unfold rwX
  rw [List.length_map, List.length_take, List.length_drop]
  omega
theorem rwX_split {r m e : Nat} (h1 : r ≤ m) (h2 : m ≤ e) : rwX RS c r e = rwX RS c r m ++ rwX RS c m e := by
  unfold rwX
  rw [← List.map_append]
  congr 1
  have e1 : (RS.drop m) = (RS.drop r).drop (m - r) := by rw [List.drop_drop]; congr 1; omega
  rw [e1]
  generalize RS.drop r = L
  rw [show e - r = (m - r) + (e - m) from by omega, List.take_add]
theorem rwX_cons {r e : Nat} (h : r < e) (he : e ≤ RS.length) : ∃ q, rwX RS c r (r + 1) = [q] ∧ rwX RS c r e = q :: rwX RS c (r + 1) e := by
  have hl := rwX_len (RS := RS) (c := c) (r := r) (e := r + 1) (by omega)
  rw [show r + 1 - r = 1 from by omega] at hl
  obtain ⟨q, hq⟩ := List.length_eq_one_iff.mp hl
  refine ⟨q, hq, ?_⟩
  rw [rwX_split (Nat.le_succ r) h, hq]
  rfl
theorem rwX_take {r e k : Nat} (h : r + k ≤ e) (he : e ≤ RS.length) : (rwX RS c r e).take k = rwX RS c r (r + k) ∧ (rwX RS c r e).drop k = rwX RS c (r + k) e := by
  have hl := rwX_len (RS := RS) (c := c) (r := r) (e := r + k) (by omega)
  rw [rwX_split (Nat.le_add_right r k) h]
  exact ⟨List.take_left' (by omega), List.drop_left' (by omega)⟩
theorem peF_fl {most r to : Nat} (hm : most ≤ 1000) (hto : to ≤ RS.length) : ∀ d e, e + d = to → r ≤ e → peF RS c most r d e = e + flX most false (rwX RS c r e).flatten.length (tx (rwX RS c r e).flatten) (rwX RS c e to) := by
  intro d
  induction d with
  | zero => intro e h1 h2; rw [rwX_nil (by omega : to ≤ e)]; rfl
  | succ d ih =>
    intro e h1 h2
    obtain ⟨q, q1, q2⟩ := rwX_cons (RS := RS) (c := c) (r := e) (e := to) (by omega) hto
    have q3 : rwX RS c r (e + 1) = rwX RS c r e ++ [q] := by rw [rwX_split h2 (Nat.le_succ e), q1]
    have q4 : (rwX RS c r (e + 1)).flatten = (rwX RS c r e).flatten ++ q := by rw [q3, List.flatten_append, List.flatten_cons, List.flatten_nil, List.append_nil]
    have il := ih (e + 1) (by omega) (by omega)
    rw [q4, List.length_append, tx_app] at il
    rw [q2]
    simp only [peF, flX]
    rw [cs_len (by omega), cs_tx (by omega), q4, List.length_append, tx_app]
    by_cases w : (rwX RS c r e).flatten.length + q.length ≤ most ∧ tx (rwX RS c r e).flatten + tx q ≤ 20000
    · rw [if_pos w, if_pos ⟨by omega, Or.inr w⟩, il]
      omega
    · rw [if_neg w, if_neg (fun z => w (z.2.elim (fun y => absurd y (by decide)) id))]
      rfl
theorem chF_x {ty mr md most to : Nat} (hm : most ≤ 1000) (hto : to ≤ RS.length) : ∀ d r, r ≤ to → chF RS ty mr md c most to d r = chX ty mr md most d (rwX RS c r to) := by
  intro d
  induction d with
  | zero => intro r _; rfl
  | succ d ih =>
    intro r hr
    simp only [chF, chX]
    have hl := rwX_len (RS := RS) (c := c) (r := r) hto
    by_cases c0 : to ≤ r
    · rw [if_pos c0, if_pos (by omega)]
    · rw [if_neg c0, if_neg (by omega : ¬ (rwX RS c r to).length = 0)]
      obtain ⟨q, q1, q2⟩ := rwX_cons (RS := RS) (c := c) (r := r) (e := to) (by omega) hto
      have q5 : (rwX RS c r (r + 1)).flatten = q := by rw [q1, List.flatten_cons, List.flatten_nil, List.append_nil]
      have ef : flX most true 0 0 (rwX RS c r to) = if q.length ≤ 1000 then 1 + flX most false q.length (tx q) (rwX RS c (r + 1) to) else 0 := by
        rw [q2]
        simp only [flX, Nat.zero_add]
        by_cases w : q.length ≤ 1000
        · rw [if_pos w, if_pos ⟨w, Or.inl trivial⟩]
        · rw [if_neg w, if_neg (fun z => w z.1)]
      rw [cs_len (by omega), q5]
      by_cases w : 1000 < q.length
      · rw [if_pos w, if_pos (by rw [ef, if_neg (by omega)])]
      · rw [if_neg w]
        rw [if_pos (by omega)] at ef
        rw [if_neg (by omega)]
        have ep := peF_fl (RS := RS) (c := c) (most := most) (r := r) (to := to) hm hto (to - (r + 1)) (r + 1) (by omega) (by omega)
        rw [q5] at ep
        have le := flX_le (most := most) (rwX RS c (r + 1) to) false q.length (tx q)
        rw [rwX_len hto] at le
        have ek : peF RS c most r (to - (r + 1)) (r + 1) = r + flX most true 0 0 (rwX RS c r to) := by rw [ep, ef]; omega
        have hk : r + flX most true 0 0 (rwX RS c r to) ≤ to := by omega
        obtain ⟨t1, t2⟩ := rwX_take (RS := RS) (c := c) hk hto
        rw [ek, ih _ hk, t1, t2]
        have eg : pgB RS ty mr md (cs RS c r (r + flX most true 0 0 (rwX RS c r to))) = pgX ty mr md (rwX RS c r (r + flX most true 0 0 (rwX RS c r to))).flatten := by
          rw [← cs_rw (by omega)]
          exact pgX_map
        rw [eg]
        cases chX ty mr md most d (rwX RS c (r + flX most true 0 0 (rwX RS c r to)) to) <;> rfl
theorem chB_x {ty md bl pg fr to : Nat} (h : fr ≤ to) : chB RS.flatten ty md bl pg (cs RS c fr to) = chBX ty md bl pg (rwX RS c fr to).flatten := by
  rw [chBX_map, cs_rw h]
end
