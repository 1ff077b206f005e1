/-! the model's entries of a column of some rows, as a list -/
theorem sg_map {E : List SEn} {c a : Nat} : ∀ d, a + d ≤ E.length → (sg E c a d).map (en E) = colE c ((E.drop a).take d) := by
  intro d
  induction d with
  | zero => intro _; rfl
  | succ d ih =>
    intro h
    have hl : d < (E.drop a).length := by rw [List.length_drop]; omega
    have e : (E.drop a).take (d + 1) = (E.drop a).take d ++ [en E (a + d)] := by
      rw [List.take_succ_eq_append_getElem hl, List.getElem_drop]
      show _ = _ ++ [E.getD (a + d) en0]
      rw [List.getD_eq_getElem?_getD, List.getElem?_eq_getElem (by omega)]
      rfl
    rw [e, colE_app, ← ih (by omega)]
    show (sg E c a d ++ _).map (en E) = _
    rw [List.map_append]
    congr 1
    by_cases z : (en E (a + d)).1 = c
    · rw [if_pos z, colE_cons, if_pos z]; rfl
    · rw [if_neg z, colE_cons, if_neg z]; rfl
theorem cs_map {RS : List (List SEn)} {c r e : Nat} (h1 : r ≤ e) : (cs RS c r e).map (en RS.flatten) = colE c ((RS.drop r).take (e - r)).flatten := by
  have a1 : rA0 RS r ≤ rA0 RS e := rw_mono h1
  have a2 : rA0 RS e ≤ RS.flatten.length := rw_le
  unfold cs
  rw [sg_map _ (by omega)]
  congr 1
  have e1 : RS.flatten = (RS.take r).flatten ++ (RS.drop r).flatten := by rw [← List.flatten_append, List.take_append_drop]
  have e2 : (RS.drop r).flatten = ((RS.drop r).take (e - r)).flatten ++ ((RS.drop r).drop (e - r)).flatten := by rw [← List.flatten_append, List.take_append_drop]
  have e3 : rA0 RS e = rA0 RS r + ((RS.drop r).take (e - r)).flatten.length := by
    have : RS.take e = RS.take r ++ (RS.drop r).take (e - r) := by
      rw [← List.take_append_drop r (RS.take e), List.take_take, Nat.min_eq_left h1, List.drop_take]
    show (RS.take e).flatten.length = _
    rw [this, List.flatten_append, List.length_append]
  have e4 : RS.flatten.drop (rA0 RS r) = (RS.drop r).flatten := by
    rw [e1]
    exact List.drop_left' rfl
  rw [e4, e2, e3, Nat.add_sub_cancel_left]
  exact List.take_left' rfl
