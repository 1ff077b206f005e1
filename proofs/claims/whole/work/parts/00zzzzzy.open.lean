/-! what is open: pages, entries; a value is kept, model -/
abbrev OPg : Type := Nat × Nat × List SEn × List PV
def pg0 : OPg := (0, 0, [], [])
abbrev mrC (F : List SFd) (c : Nat) : Nat := rF F (lfC F c)
def entK (c md : Nat) (R D : List Nat) (P : List PV) (k : Nat) : SEn := (c, R.getD k 0, D.getD k 0, if D.getD k 0 = md then pvd P (hvN md (D.take k)) else (0, []))
/-- the entries of a page -/
def entL (c md : Nat) (R D : List Nat) (P : List PV) : List SEn := (List.range D.length).map (entK c md R D P)
def vlE (md : Nat) (E : List SEn) : List PV := (E.filter (fun e => decide (e.2.2.1 = md))).map (fun e => e.2.2.2)
def nR (E : List SEn) : Nat := (E.filter (fun e => decide (e.2.1 = 0))).length
/-- a page of a column, a entries and b bytes of texts before it -/
def pgO (T : Nat → Nat) (F : List SFd) (c a b st p : Nat) : Rd (List SEn × List PV) := match pgR T (tyC F c) (mrC F c) (mdC F c) st p with
  | .error e => .error e
  | .ok ((_, R, D, P, W), q) => if 10000 < a + D.length ∨ 60000 < b + oF P P.length then .error 22 else if R.getD 0 0 ≠ 0 then .error 19 else if ∃ k, k < D.length ∧ 1 ≤ k ∧ badO F (lfC F c) R D k then .error 20 else .ok ((entL c (mdC F c) R D P, if W.length ≤ 100 then W else []), q)
section
variable {c md : Nat} {R D : List Nat} {P : List PV}
theorem entL_len : (entL c md R D P).length = D.length := by unfold entL; rw [List.length_map, List.length_range]
theorem entL_at {k : Nat} (h : k < D.length) : (entL c md R D P).getD k en0 = entK c md R D P k := by
  unfold entL
  rw [List.getD_eq_getElem?_getD, List.getElem?_map, List.getElem?_range h]
  rfl
theorem entL_take {k : Nat} (h : k < D.length) : (entL c md R D P).take (k + 1) = (entL c md R D P).take k ++ [entK c md R D P k] := by
  have hl : k < (entL c md R D P).length := by rw [entL_len]; exact h
  rw [List.take_succ_eq_append_getElem hl, ← en_at hl, entL_at h]
theorem vlE_app {A B : List SEn} : vlE md (A ++ B) = vlE md A ++ vlE md B := by
  unfold vlE
  rw [List.filter_append, List.map_append]
theorem vlE_one {e : SEn} : vlE md [e] = if e.2.2.1 = md then [e.2.2.2] else [] := by
  unfold vlE
  rw [List.filter_cons]
  by_cases h : e.2.2.1 = md
  · rw [if_pos h, decide_eq_true h]; rfl
  · rw [if_neg h, decide_eq_false h]; rfl
theorem nR_app {A B : List SEn} : nR (A ++ B) = nR A + nR B := by
  unfold nR
  rw [List.filter_append, List.length_append]
theorem nR_one {e : SEn} : nR [e] = if e.2.1 = 0 then 1 else 0 := by
  unfold nR
  rw [List.filter_cons]
  by_cases h : e.2.1 = 0
  · rw [if_pos h, decide_eq_true h]; rfl
  · rw [if_neg h, decide_eq_false h]; rfl
theorem nR_le (A : List SEn) : nR A ≤ A.length := List.length_filter_le _ _
theorem hv_le (D : List Nat) : hvN md D ≤ D.length := List.length_filter_le _ _
theorem hv_mono {k m : Nat} (h : k ≤ m) : hvN md (D.take k) ≤ hvN md (D.take m) := by
  have e : (D.take m).take k = D.take k := by rw [List.take_take, Nat.min_eq_left h]
  have := List.take_append_drop k (D.take m)
  unfold hvN
  rw [← this, List.filter_append, List.length_append, e]
  omega
theorem hv_lt {k : Nat} (h : k < D.length) (hd : D.getD k 0 = md) : hvN md (D.take k) < hvN md D := by
  have a := hvN_take (md := md) h
  rw [if_pos hd] at a
  have b := hv_mono (md := md) (D := D) (show k + 1 ≤ D.length by omega)
  rw [List.take_length] at b
  omega
theorem pv_take {k : Nat} (h : k < P.length) : P.take (k + 1) = P.take k ++ [pvd P k] := by
  rw [List.take_succ_eq_append_getElem h]
  unfold pvd
  rw [List.getD_eq_getElem?_getD, List.getElem?_eq_getElem h]
  rfl
theorem vlE_take (h : hvN md D = P.length) : ∀ k, k ≤ D.length → vlE md ((entL c md R D P).take k) = P.take (hvN md (D.take k)) := by
  intro k
  induction k with
  | zero => intro _; rfl
  | succ k ih =>
    intro hk
    rw [entL_take (by omega), vlE_app, vlE_one, ih (by omega), hvN_take (by omega)]
    by_cases e : D.getD k 0 = md
    · have l := hv_lt (md := md) (D := D) (by omega) e
      rw [if_pos (show (entK c md R D P k).2.2.1 = md from e), if_pos e, pv_take (by omega)]
      congr 1
      show [if D.getD k 0 = md then pvd P (hvN md (D.take k)) else ((0 : Int64), ([] : List Int32))] = _
      rw [if_pos e]
    · rw [if_neg (show ¬ (entK c md R D P k).2.2.1 = md from e), if_neg e, List.append_nil, Nat.add_zero]
theorem vlE_all (h : hvN md D = P.length) : vlE md (entL c md R D P) = P := by
  have := vlE_take (c := c) (R := R) h D.length (Nat.le_refl _)
  rw [List.take_length, List.take_of_length_le (by rw [entL_len]; exact Nat.le_refl _), h, List.take_length] at this
  exact this
theorem tx_one {e : SEn} : tx [e] = e.2.2.2.2.length := by
  show e.2.2.2.2.length + 0 = _
  omega
theorem oF_take {k : Nat} (h : k ≤ P.length) : oF (P.take k) (P.take k).length = oF P k := by
  induction k with
  | zero => rfl
  | succ k ih =>
    have l : (P.take k).length = k := by rw [List.length_take]; omega
    rw [pv_take (by omega), List.length_append, show [pvd P k].length = 1 from rfl, oF_a2, ih (by omega)]
    rfl
theorem tx_entL (h : hvN md D = P.length) : ∀ k, k ≤ D.length → tx ((entL c md R D P).take k) = oF P (hvN md (D.take k)) := by
  intro k
  induction k with
  | zero => intro _; rfl
  | succ k ih =>
    intro hk
    rw [entL_take (by omega), tx_app, tx_one, ih (by omega), hvN_take (by omega)]
    by_cases e : D.getD k 0 = md
    · rw [if_pos e]
      show oF P (hvN md (D.take k)) + (if D.getD k 0 = md then pvd P (hvN md (D.take k)) else ((0 : Int64), ([] : List Int32))).2.length = _
      rw [if_pos e]
      rfl
    · rw [if_neg e]
      show oF P (hvN md (D.take k)) + (if D.getD k 0 = md then pvd P (hvN md (D.take k)) else ((0 : Int64), ([] : List Int32))).2.length = _
      rw [if_neg e]
      rfl
theorem tx_all (h : hvN md D = P.length) : tx (entL c md R D P) = oF P P.length := by
  have := tx_entL (c := c) (R := R) h D.length (Nat.le_refl _)
  rw [List.take_length, List.take_of_length_le (by rw [entL_len]; exact Nat.le_refl _), h] at this
  exact this
theorem gA_off {x : St} {r r' K k : Nat} {v : Int32} (hK : K < 2 ^ 31) (h : k ≠ K) : fA (setA x r (nI K) v) r' k = fA x r' k := by
  by_cases e : r' = r
  · rw [e, gA_at, nI_clamp hK, upd_ne h]
  · rw [gA_ne e]
theorem gA_on {x : St} {r K : Nat} {v : Int32} (hK : K < 2 ^ 31) : fA (setA x r (nI K) v) r K = v := by
  rw [gA_at, nI_clamp hK, upd_at]
end
/-- the least and the greatest of values, in the pool -/
def BdO (x : St) (ty : Nat) (Q : List PV) (pp : Nat) (V : List PV) : Prop := (V = [] → fA x 71 pp = -1 ∧ fA x 72 pp = -1) ∧ (V ≠ [] → ∃ a b, a < Q.length ∧ b < Q.length ∧ fA x 71 pp = nI a ∧ fA x 72 pp = nI b ∧ IsMn ty V (pvd Q a) ∧ IsMx ty V (pvd Q b))
def EnO (x : St) (F : List SFd) (Q : List PV) (i : Nat) (e : SEn) : Prop := fA x 58 i = nI e.2.1 ∧ fA x 59 i = nI e.2.2.1 ∧ (e.2.2.1 = mdC F e.1 → ∃ a, a < Q.length ∧ fA x 60 i = nI a ∧ pvd Q a = e.2.2.2) ∧ (e.2.2.1 ≠ mdC F e.1 → fA x 60 i = -1)
def PgO (x : St) (F : List SFd) (Q : List PV) (k : Nat) (g : OPg) : Prop := fA x 66 k = nI g.1 ∧ fA x 67 k = nI g.2.1 ∧ fA x 68 k = nI (nR g.2.2.1) ∧ fA x 69 k = nI g.2.2.1.length ∧ fA x 70 k = nI (g.2.2.1.length - (vlE (mdC F g.1) g.2.2.1).length) ∧ BdO x (tyC F g.1) Q k (vlE (mdC F g.1) g.2.2.1) ∧ ∃ a, fA x 73 k = nI a ∧ fA x 74 k = nI g.2.2.2.length ∧ a + g.2.2.2.length ≤ Q.length ∧ ∀ i, i < g.2.2.2.length → pvd Q (a + i) = pvd g.2.2.2 i
def OsM (x : St) (F : List SFd) (Q : List PV) (E : List SEn) (PP : List OPg) : Prop := PoM x Q ∧ fI x 0 87 = nI E.length ∧ fI x 0 86 = nI PP.length ∧ (∀ i, i < E.length → EnO x F Q i (E.getD i en0)) ∧ ∀ k, k < PP.length → PgO x F Q k (PP.getD k pg0)
theorem pvd_l {Q Z : List PV} {a : Nat} (h : a < Q.length) : pvd (Q ++ Z) a = pvd Q a := by
  unfold pvd
  rw [List.getD_eq_getElem?_getD, List.getElem?_append_left h, List.getD_eq_getElem?_getD]
theorem pvd_r {Q Z : List PV} {a : Nat} : pvd (Q ++ Z) (Q.length + a) = pvd Z a := by
  unfold pvd
  rw [List.getD_eq_getElem?_getD, List.getElem?_append_right (by omega), Nat.add_sub_cancel_left, List.getD_eq_getElem?_getD]
section
variable {x y : St} {F : List SFd} {Q Z : List PV} {ty : Nat}
theorem BdO.cg {pp : Nat} {V : List PV} (h : BdO x ty Q pp V) (e1 : fA y 71 pp = fA x 71 pp) (e2 : fA y 72 pp = fA x 72 pp) : BdO y ty (Q ++ Z) pp V := by
  refine ⟨fun z => by rw [e1, e2]; exact h.1 z, fun z => ?_⟩
  obtain ⟨a, b, a1, b1, a2, b2, a3, b3⟩ := h.2 z
  refine ⟨a, b, by rw [List.length_append]; omega, by rw [List.length_append]; omega, by rw [e1]; exact a2, by rw [e2]; exact b2, ?_, ?_⟩
  · rw [pvd_l a1]; exact a3
  · rw [pvd_l b1]; exact b3
theorem EnO.cg {i : Nat} {e : SEn} (h : EnO x F Q i e) (e1 : ∀ r, 58 ≤ r → r ≤ 60 → fA y r i = fA x r i) : EnO y F (Q ++ Z) i e := by
  obtain ⟨h1, h2, h3, h4⟩ := h
  refine ⟨by rw [e1 58 (by omega) (by omega)]; exact h1, by rw [e1 59 (by omega) (by omega)]; exact h2, fun z => ?_, fun z => by rw [e1 60 (by omega) (by omega)]; exact h4 z⟩
  obtain ⟨a, a1, a2, a3⟩ := h3 z
  exact ⟨a, by rw [List.length_append]; omega, by rw [e1 60 (by omega) (by omega)]; exact a2, by rw [pvd_l a1]; exact a3⟩
theorem PgO.cg {k : Nat} {g : OPg} (h : PgO x F Q k g) (e1 : ∀ r, 66 ≤ r → r ≤ 74 → fA y r k = fA x r k) : PgO y F (Q ++ Z) k g := by
  obtain ⟨h1, h2, h3, h4, h5, h6, a, h7, h8, h9, h10⟩ := h
  refine ⟨by rw [e1 66 (by omega) (by omega)]; exact h1, by rw [e1 67 (by omega) (by omega)]; exact h2, by rw [e1 68 (by omega) (by omega)]; exact h3, by rw [e1 69 (by omega) (by omega)]; exact h4, by rw [e1 70 (by omega) (by omega)]; exact h5, h6.cg (e1 71 (by omega) (by omega)) (e1 72 (by omega) (by omega)), a, by rw [e1 73 (by omega) (by omega)]; exact h7, by rw [e1 74 (by omega) (by omega)]; exact h8, by rw [List.length_append]; omega, fun i hi => ?_⟩
  rw [pvd_l (by omega)]
  exact h10 i hi
/-- a value is kept, and is perhaps the least or the greatest -/
theorem s_keepV {post : St → Prop} {rec232 : Int32 → Int32 → Int32 → Int32 → Int32 → Int32 → St → Prop} {pp K : Nat} {V : List PV} {v : PV} {l1 l2 l3 l5 l6 fr : Int32} (hL : LM x) (h : PoM x Q) (hQ : Q.length < 50000) (ho : oF Q Q.length + v.2.length ≤ 160000) (hty : ty < 4) (h87 : fI x 0 87 = nI K) (hK : K < 10000) (hpp : pp < 10000) (h38 : fI x 0 38 = nI ty) (hB : BdO x ty Q pp V) (hv : okPv ty v) (hV : ∀ u, u ∈ V → okPv ty u)
    (ht : ∀ j, j < v.2.length → vp_in (fr + nI j) (fN x 37) ∧ rA x 37 (fr + nI j) = v.2.getD j 0)
    (p : ∀ y, Fg (fun o k => o = 0 ∧ (k = 93 ∨ k = 94)) no2 no2 (fun a => a = 55 ∨ a = 56 ∨ a = 57 ∨ a = 60 ∨ a = 71 ∨ a = 72) (fun a => a = 54) x y → (∀ k, k ≠ K → fA y 60 k = fA x 60 k) → fA y 60 K = nI Q.length → (∀ k, k ≠ pp → fA y 71 k = fA x 71 k ∧ fA y 72 k = fA x 72 k) → PoM y (Q ++ [v]) → BdO y ty (Q ++ [v]) pp (V ++ [v]) → j_Mod_openPage_501 post rec232 l1 l2 l3 (nI pp) (l5 + 1) l6 y) :
    j_Mod_openPage_382 post rec232 l1 l2 l3 (nI pp) l5 l6 (nI v.2.length) fr 37 v.1 x := by
  have n60 : fN x 60 = 10000 := hL 60
  have n71 : fN x 71 = 10000 := hL 71
  have n72 : fN x 72 = 10000 := hL 72
  unfold j_Mod_openPage_382
  refine s_poolAdd (t := v.2) hL h hQ ho ⟨by decide, by decide, by decide⟩ ht (fun z z1 z2 => ?_)
  have zN : ∀ o, fN z o = fN x o := fun o => by show z.2.2.2.2.2 o = _; rw [z1.2.2.2.2.2]
  have zL : LM z := fun o => (zN o).trans (hL o)
  rw [show fI z 0 87 = nI K from (z1.1 0 87 (by decide)).trans h87]
  refine ⟨vp_in_nI (by rw [zN]; omega) (by rw [zN]; omega), nm_e ?_⟩
  have Z71 : fA z 71 = fA x 71 := z1.2.2.2.1 71 (by decide)
  have Z72 : fA z 72 = fA x 72 := z1.2.2.2.1 72 (by decide)
  have Z60 : fA z 60 = fA x 60 := z1.2.2.2.1 60 (by decide)
  have lq : (Q ++ [v]).length = Q.length + 1 := by rw [List.length_append]; rfl
  generalize hb : setA z 60 (nI K) (nI Q.length) = b
  have fb : Fg (fun o k => o = 0 ∧ (k = 93 ∨ k = 94)) no2 no2 (fun a => a = 55 ∨ a = 56 ∨ a = 57 ∨ a = 60 ∨ a = 71 ∨ a = 72) (fun a => a = 54) x b := by
    rw [← hb]
    exact Fg.trans (z1.mono (fun _ _ w => w) (fun _ _ w => w) (fun _ _ w => w) (fun _ w => by omega) (fun _ w => w)) (Fg.a (by decide))
  have bP : PoM b (Q ++ [v]) := by
    rw [← hb]
    exact z2.cg rfl rfl rfl (gA_ne (by decide)) (gA_ne (by decide)) (gA_ne (by decide))
  have b71 : fA b 71 = fA x 71 := by rw [← hb, gA_ne (by decide)]; exact Z71
  have b72 : fA b 72 = fA x 72 := by rw [← hb, gA_ne (by decide)]; exact Z72
  have b60 : fA b 60 K = nI Q.length := by rw [← hb]; exact gA_on (by omega)
  have b60' : ∀ k, k ≠ K → fA b 60 k = fA x 60 k := fun k hk => by rw [← hb, gA_off (by omega) hk, Z60]
  clear hb
  have bN : ∀ o, fN b o = fN x o := fun o => by show b.2.2.2.2.2 o = _; rw [fb.2.2.2.2.2]
  have bL : LM b := fun o => (bN o).trans (hL o)
  have b38 : fI b 0 38 = nI ty := (fb.1 0 38 (by decide)).trans h38
  have pq : pvd (Q ++ [v]) Q.length = v := pvd_a2
  have one : ∀ {V' : List PV}, V' = [] → IsMn ty (V' ++ [v]) v ∧ IsMx ty (V' ++ [v]) v := fun {V'} e => by
    rw [e]
    have m1 : v ∈ [v] := List.mem_singleton.mpr rfl
    refine ⟨⟨m1, fun u hu => ?_⟩, ⟨m1, fun u hu => ?_⟩⟩ <;> rw [List.mem_singleton.mp hu] <;> exact ltV_irr
  have oneN : IsMn ty [v] v := (one (V' := []) rfl).1
  have oneX : IsMx ty [v] v := (one (V' := []) rfl).2
  -- the greatest
  have gr : ∀ (d : St) a, Fg no2 no2 no2 (fun r => r = 71) no1 b d → (∀ k, k ≠ pp → fA d 71 k = fA b 71 k) → fA d 71 pp = nI a → a < Q.length + 1 → IsMn ty (V ++ [v]) (pvd (Q ++ [v]) a) →
      (vp_in (nI pp) (fN d 72) ∧ (((rA d 72 (nI pp)) = (-1) → j_Mod_openPage_485 post rec232 l1 l2 l3 (nI pp) l5 l6 (nI Q.length) (nI pp) 72 d) ∧ (¬ (rA d 72 (nI pp)) = (-1) → (vp_in (nI pp) (fN d 72) ∧ wp_Mod_compare (fun (r1577 : Int32) (x1576 : St) => ((r1577 ≤ 0 → (vp_in (nI pp) (fN x1576 72) ∧ j_Mod_openPage_497 post rec232 l1 l2 l3 (nI pp) l5 l6 (nI Q.length) (rA x1576 72 (nI pp)) (nI pp) 72 x1576)) ∧ (¬ r1577 ≤ 0 → j_Mod_openPage_485 post rec232 l1 l2 l3 (nI pp) l5 l6 (nI Q.length) (nI pp) 72 x1576))) (fI d 0 38) (nI Q.length) (rA d 72 (nI pp)) d)))) := fun d a d1 d2 d3 d4 d5 => by
    have dN : ∀ o, fN d o = fN x o := fun o => by show d.2.2.2.2.2 o = _; rw [d1.2.2.2.2.2]; exact bN o
    have dL : LM d := fun o => (dN o).trans (hL o)
    have d72 : fA d 72 = fA x 72 := (d1.2.2.2.1 72 (by decide)).trans b72
    have dP : PoM d (Q ++ [v]) := bP.cg (d1.1 0 93 id) (d1.1 0 94 id) (d1.2.2.2.2.1 54 id) (d1.2.2.2.1 55 (by decide)) (d1.2.2.2.1 56 (by decide)) (d1.2.2.2.1 57 (by decide))
    have v72 : vp_in (nI pp) (fN d 72) := vp_in_nI (by rw [dN]; omega) (by rw [dN]; omega)
    have e72 : rA d 72 (nI pp) = fA x 72 pp := by rw [rA_nI (by omega), d72]
    -- it is set
    have fin : ∀ w a', w = nI a' → a' < Q.length + 1 → IsMx ty (V ++ [v]) (pvd (Q ++ [v]) a') → j_Mod_openPage_497 post rec232 l1 l2 l3 (nI pp) l5 l6 (nI Q.length) w (nI pp) 72 d := fun w a' hw ha hm => by
      unfold j_Mod_openPage_497
      refine ⟨v72, nm_e ?_⟩
      have dd : Fg (fun o k => o = 0 ∧ (k = 93 ∨ k = 94)) no2 no2 (fun a => a = 55 ∨ a = 56 ∨ a = 57 ∨ a = 60 ∨ a = 71 ∨ a = 72) (fun a => a = 54) x (setA d 72 (nI pp) w) := Fg.trans fb (Fg.trans (d1.mono (fun _ _ w => w.elim) (fun _ _ w => w) (fun _ _ w => w) (fun _ w => by omega) (fun _ w => w.elim)) (Fg.a (by decide)))
      refine p _ dd (fun k hk => ?_) ?_ (fun k hk => ⟨?_, ?_⟩) (dP.cg rfl rfl rfl (gA_ne (by decide)) (gA_ne (by decide)) (gA_ne (by decide))) ⟨fun z => absurd z (by simp), fun _ => ⟨a, a', by omega, by omega, ?_, ?_, d5, hm⟩⟩
      · rw [gA_ne (by decide), show fA d 60 = fA b 60 from d1.2.2.2.1 60 (by decide)]; exact b60' k hk
      · rw [gA_ne (by decide), show fA d 60 = fA b 60 from d1.2.2.2.1 60 (by decide)]; exact b60
      · rw [gA_ne (by decide), d2 k hk, b71]
      · rw [gA_off (by omega) hk, d72]
      · rw [gA_ne (by decide)]; exact d3
      · rw [gA_on (by omega)]; exact hw
    refine ⟨v72, ?_⟩
    rw [e72, show fI d 0 38 = nI ty from (d1.1 0 38 id).trans b38]
    by_cases cV : V = []
    · rw [(hB.1 cV).2]
      refine br_t rfl ?_
      unfold j_Mod_openPage_485
      exact fin _ Q.length rfl (by omega) (by rw [pq]; exact (one cV).2)
    · obtain ⟨a2, b2, q1, q2, q3, q4, q5, q6⟩ := hB.2 cV
      rw [q4]
      refine br_f (nI_nm1 (by omega)) ⟨v72, ?_⟩
      have p2 : pvd (Q ++ [v]) b2 = pvd Q b2 := pvd_l q2
      have okb : okPv ty (pvd Q b2) := hV _ q6.1
      refine s_compare dL dP (by omega) (by omega) hty (by rw [pq]; exact hv.v) (by rw [p2]; exact okb.v) ?_
      rw [pq, p2]
      have lt := (cmpV_lt hv.v okb.v).2
      have app := IsMx.app q6 oneX
      by_cases cg : 0 < cmpV ty v (pvd Q b2)
      · refine br_f (fun z => Int32.not_lt.mpr z cg) ?_
        unfold j_Mod_openPage_485
        exact fin _ Q.length rfl (by omega) (by rw [pq]; exact app.1 (lt.mp cg))
      · refine br_t (Int32.not_lt.mp cg) ⟨v72, ?_⟩
        rw [e72, q4]
        exact fin _ b2 rfl (by omega) (by rw [p2]; exact app.2 (fun z => cg (lt.mpr z)))
  have v71 : vp_in (nI pp) (fN b 71) := vp_in_nI (by rw [bN]; omega) (by rw [bN]; omega)
  have e71 : rA b 71 (nI pp) = fA x 71 pp := by rw [rA_nI (by omega), b71]
  have fin7 : ∀ w a', w = nI a' → a' < Q.length + 1 → IsMn ty (V ++ [v]) (pvd (Q ++ [v]) a') → j_Mod_openPage_447 post rec232 l1 l2 l3 (nI pp) l5 l6 (nI Q.length) w (nI pp) 71 b := fun w a' hw ha hm => by
    unfold j_Mod_openPage_447
    refine ⟨v71, nm_e ?_⟩
    exact gr (setA b 71 (nI pp) w) a' (Fg.a rfl) (fun k hk => gA_off (by omega) hk) (by rw [gA_on (by omega)]; exact hw) ha hm
  refine ⟨v71, ?_⟩
  rw [e71, b38]
  by_cases cV : V = []
  · rw [(hB.1 cV).1]
    refine br_t rfl ?_
    unfold j_Mod_openPage_435
    exact fin7 _ Q.length rfl (by omega) (by rw [pq]; exact (one cV).1)
  · obtain ⟨a2, b2, q1, q2, q3, q4, q5, q6⟩ := hB.2 cV
    rw [q3]
    refine br_f (nI_nm1 (by omega)) ⟨v71, ?_⟩
    have p2 : pvd (Q ++ [v]) a2 = pvd Q a2 := pvd_l q1
    have oka : okPv ty (pvd Q a2) := hV _ q5.1
    refine s_compare bL bP (by omega) (by omega) hty (by rw [pq]; exact hv.v) (by rw [p2]; exact oka.v) ?_
    rw [pq, p2]
    have lt := (cmpV_lt hv.v oka.v).1
    have app := IsMn.app q5 oneN
    by_cases cg : cmpV ty v (pvd Q a2) < 0
    · refine br_f (fun z => Int32.not_lt.mpr z cg) ?_
      unfold j_Mod_openPage_435
      exact fin7 _ Q.length rfl (by omega) (by rw [pq]; exact app.1 (lt.mp cg))
    · refine br_t (Int32.not_lt.mp cg) ⟨v71, ?_⟩
      rw [e71, q3]
      exact fin7 _ a2 rfl (by omega) (by rw [p2]; exact app.2 (fun z => cg (lt.mpr z)))
end
