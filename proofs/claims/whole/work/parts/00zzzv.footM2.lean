/-! the model: what a chunk tells -/
theorem mnF_app {ty : Nat} {P : List PV} {p : PV} : ∀ k, k < P.length → mnF ty (P ++ [p]) k = mnF ty P k := by
  intro k
  induction k with
  | zero => intro _; rfl
  | succ k ih =>
    intro h
    have m := mnF_le (ty := ty) (P := P) k
    simp only [mnF]
    rw [ih (by omega), pvd_a1 (by omega), pvd_a1 (by omega)]
theorem mxF_app {ty : Nat} {P : List PV} {p : PV} : ∀ k, k < P.length → mxF ty (P ++ [p]) k = mxF ty P k := by
  intro k
  induction k with
  | zero => intro _; rfl
  | succ k ih =>
    intro h
    have m := mxF_le (ty := ty) (P := P) k
    simp only [mxF]
    rw [ih (by omega), pvd_a1 (by omega), pvd_a1 (by omega)]
def mnI (E : List SEn) (ty : Nat) (l : List Nat) : Int32 := if l.length = 0 then -1 else nI (l.getD (mnF ty (pvs E l) (l.length - 1)) 0)
def mxI (E : List SEn) (ty : Nat) (l : List Nat) : Int32 := if l.length = 0 then -1 else nI (l.getD (mxF ty (pvs E l) (l.length - 1)) 0)
theorem pvd_pvs {E : List SEn} {l : List Nat} {k : Nat} (h : k < l.length) : pvd (pvs E l) k = pvI E (l.getD k 0) := by
  unfold pvd pvs
  rw [List.getD_eq_getElem?_getD, List.getElem?_map, List.getD_eq_getElem?_getD, List.getElem?_eq_getElem h]
  rfl
theorem mn_step {E : List SEn} {ty i : Nat} {l : List Nat} (h : l.length ≠ 0) : mnI E ty (l ++ [i]) = if cmpV ty (pvI E i) (pvI E (l.getD (mnF ty (pvs E l) (l.length - 1)) 0)) < 0 then nI i else mnI E ty l := by
  have hl : (l ++ [i]).length = l.length + 1 := by rw [List.length_append]; rfl
  have pl : (pvs E l).length = l.length := pvs_len
  have m := mnF_le (ty := ty) (P := pvs E l) (l.length - 1)
  unfold mnI
  rw [if_neg (by omega), if_neg h, hl, Nat.add_sub_cancel, pvs_app]
  obtain ⟨n, hn⟩ : ∃ n, l.length = n + 1 := ⟨l.length - 1, by omega⟩
  have e : mnF ty (pvs E l ++ [pvI E i]) l.length = if cmpV ty (pvI E i) (pvI E (l.getD (mnF ty (pvs E l) (l.length - 1)) 0)) < 0 then l.length else mnF ty (pvs E l) (l.length - 1) := by
    rw [hn]
    simp only [mnF]
    rw [mnF_app n (by omega), show n + 1 = (pvs E l).length by omega, pvd_a2, pvd_a1 (by rw [hn, Nat.add_sub_cancel] at m; omega), pvd_pvs (by rw [hn, Nat.add_sub_cancel] at m; omega), show (pvs E l).length - 1 = n by omega]
  rw [e]
  split
  · rw [gd_app2]
  · rw [gd_app1 (by omega)]
theorem mx_step {E : List SEn} {ty i : Nat} {l : List Nat} (h : l.length ≠ 0) : mxI E ty (l ++ [i]) = if 0 < cmpV ty (pvI E i) (pvI E (l.getD (mxF ty (pvs E l) (l.length - 1)) 0)) then nI i else mxI E ty l := by
  have hl : (l ++ [i]).length = l.length + 1 := by rw [List.length_append]; rfl
  have pl : (pvs E l).length = l.length := pvs_len
  have m := mxF_le (ty := ty) (P := pvs E l) (l.length - 1)
  unfold mxI
  rw [if_neg (by omega), if_neg h, hl, Nat.add_sub_cancel, pvs_app]
  obtain ⟨n, hn⟩ : ∃ n, l.length = n + 1 := ⟨l.length - 1, by omega⟩
  have e : mxF ty (pvs E l ++ [pvI E i]) l.length = if 0 < cmpV ty (pvI E i) (pvI E (l.getD (mxF ty (pvs E l) (l.length - 1)) 0)) then l.length else mxF ty (pvs E l) (l.length - 1) := by
    rw [hn]
    simp only [mxF]
    rw [mxF_app n (by omega), show n + 1 = (pvs E l).length by omega, pvd_a2, pvd_a1 (by rw [hn, Nat.add_sub_cancel] at m; omega), pvd_pvs (by rw [hn, Nat.add_sub_cancel] at m; omega), show (pvs E l).length - 1 = n by omega]
  rw [e]
  split
  · rw [gd_app2]
  · rw [gd_app1 (by omega)]
theorem mn_0 {E : List SEn} {ty i : Nat} {l : List Nat} (h : l.length = 0) : mnI E ty (l ++ [i]) = nI i ∧ mxI E ty (l ++ [i]) = nI i := by
  have e : l = [] := List.length_eq_zero_iff.mp h
  subst e
  exact ⟨rfl, rfl⟩
theorem s_has {post : Int32 → St → Prop} {x : St} {F : List SFd} {RS : List (List SEn)} {i c : Nat} (hL : LM x) (hw : WfS F) (hR : RepM x 0 F) (hc : c < ncol F) (hc64 : c < 64) (h : RcM x RS) (hi : i < RS.flatten.length) (hcol : (en RS.flatten i).1 = c) (hd : (en RS.flatten i).2.2.1 < 128) (hmd : dG F (nI (lfC F c)) ≤ 17) (p1 : (en RS.flatten i).2.2.1 = dG F (nI (lfC F c)) → post 1 x) (p0 : (en RS.flatten i).2.2.1 ≠ dG F (nI (lfC F c)) → post 0 x) : wp_Mod_has post (nI i) x := by
  have hl := h.2.1.1
  have e19 : fN x 19 = 10000 := hL 19
  have e20 : fN x 20 = 10000 := hL 20
  unfold wp_Mod_has
  refine ⟨vp_in_nI (by omega) (by omega), vp_in_nI (by omega) (by omega), ?_⟩
  have r20 : rA x 20 (nI i) = nI c := by rw [rA_nI (by omega), (h.1.2.2 i hi).1]; exact congrArg nI hcol
  have r19 : rA x 19 (nI i) = nI (en RS.flatten i).2.2.1 := by rw [rA_nI (by omega)]; exact (h.1.2.2 i hi).2.2.1
  rw [r20, r19]
  refine s_mostD hL hw hR hc hc64 ?_
  by_cases z : (en RS.flatten i).2.2.1 = dG F (nI (lfC F c))
  · exact bn_t (by rw [z]) (p1 z)
  · exact bn_f (fun w => z (nI_inj (by omega) (by omega) w)) (p0 z)
