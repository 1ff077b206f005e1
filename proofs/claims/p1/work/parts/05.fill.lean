
theorem d_JArr_fill_0 : decode b_JArr_fill 0 = .ok (.iconst 0, 1) := by decide +kernel
theorem d_JArr_fill_1 : decode b_JArr_fill 1 = .ok (.istore_n 2, 1) := by decide +kernel
theorem d_JArr_fill_2 : decode b_JArr_fill 2 = .ok (.aload_n 0, 1) := by decide +kernel
theorem d_JArr_fill_3 : decode b_JArr_fill 3 = .ok (.arraylength, 1) := by decide +kernel
theorem d_JArr_fill_4 : decode b_JArr_fill 4 = .ok (.istore_n 3, 1) := by decide +kernel
theorem d_JArr_fill_5 : decode b_JArr_fill 5 = .ok (.iload_n 2, 1) := by decide +kernel
theorem d_JArr_fill_6 : decode b_JArr_fill 6 = .ok (.iload_n 3, 1) := by decide +kernel
theorem d_JArr_fill_7 : decode b_JArr_fill 7 = .ok (.if_icmp .ge 13, 3) := by decide +kernel
theorem d_JArr_fill_10 : decode b_JArr_fill 10 = .ok (.aload_n 0, 1) := by decide +kernel
theorem d_JArr_fill_11 : decode b_JArr_fill 11 = .ok (.iload_n 2, 1) := by decide +kernel
theorem d_JArr_fill_12 : decode b_JArr_fill 12 = .ok (.iload_n 1, 1) := by decide +kernel
theorem d_JArr_fill_13 : decode b_JArr_fill 13 = .ok (.iastore, 1) := by decide +kernel
theorem d_JArr_fill_14 : decode b_JArr_fill 14 = .ok (.iinc 2 1, 3) := by decide +kernel
theorem d_JArr_fill_17 : decode b_JArr_fill 17 = .ok (.goto (-12), 3) := by decide +kernel
theorem d_JArr_fill_20 : decode b_JArr_fill 20 = .ok (.return_, 1) := by decide +kernel
theorem arr_eqI (cA : ClassId) {n : Nat} {f g : Nat → Int32} (h : ∀ j, j < n → f j = g j) : vp_cell cA (n, .inl f) = vp_cell cA (n, .inl g) := by
  rw [vp_cell_i, vp_cell_i]
  unfold arrV
  congr 2
  funext j
  show Value.int (f j.val) = Value.int (g j.val)
  rw [h j.val j.isLt]
/-- the contents of a row are its first n -/
theorem pic_eqI {D : va_G} {cl : List vw_C} {a n : Nat} {cA : ClassId} {f g : Nat → Int32} {H : Heap} (h : ∀ j, j < n → f j = g j) (hP : va_P D cl [(a, .inl (cA, n, .inl f))] H) : va_P D cl [(a, .inl (cA, n, .inl g))] H := by
  intro k q hq
  match k, hq with
  | 0, hq =>
    cases hq
    have h0 : H[a]? = some (vp_cell cA (n, .inl f)) := hP 0 _ rfl
    show H[a]? = some (vp_cell cA (n, .inl g))
    rw [h0, arr_eqI cA h]
  | k + 1, hq => simp at hq
theorem apart1 {A : Nat → Prop} {a : Nat} {e e' : va_E} (h : va_D A [(a, e)]) : va_D A [(a, e')] := h.set (p := 0) (a := a) (e0 := e) (e := e') rfl
section
variable (l : Launch) (dC : Nat → ClassId) (dI : Nat → Nat → Nat) (cI cB cJ cZ : ClassId)
set_option maxHeartbeats 4000000 in
set_option maxRecDepth 100000 in
theorem fill_loop {p : Program} {l : Launch} {e : Env} {R : Room} {s : State} {m : MethodId} {args : Array Value} {below : List Frame} {meth : Method} {c : Code} {cells slots : Nat} {Q : State → Prop} {dC : Nat → ClassId} {dI : Nat → Nat → Nat} {cI cB cJ cZ : ClassId} {A : Nat → Prop} {H0 : Heap} {a n : Nat} {v : Int32}
    (hx : p.tables.exec = Jvm.exec) (hb : c.code = b_JArr_fill) (hK : va_K (dC, dI) CL (TY cI cB cJ cZ) s) (hn : n < 2 ^ 31)
    (kend : ∀ (g : Nat → Int32) (H : Heap) (locs : List Loc) (ls : Array Slot), (∀ j, j < n → g j = v) → va_P (dC, dI) CL [(a, .inl (cI, n, .inl g))] H → va_D A [(a, .inl (cI, n, .inl g))] → va_S A H0 H locs → W p l e R s m args below meth c H locs cells slots Q (F0 m 20 ls [])) :
    ∀ (k i : Nat) (g : Nat → Int32) (H : Heap) (locs : List Loc) (ls : Array Slot), i ≤ n → n + 1 ≤ i + k → (∀ j, j < i → g j = v) → va_P (dC, dI) CL [(a, .inl (cI, n, .inl g))] H → va_D A [(a, .inl (cI, n, .inl g))] → va_S A H0 H locs → lv_has ls 4 [(2, .int (nI i)), (3, .int (nI n)), (0, .ref a), (1, .int v)] → W p l e R s m args below meth c H locs cells slots Q (F0 m 5 ls []) := by
  intro k
  induction k with
  | zero => intro i g H locs ls h1 h2; exact absurd h2 (by omega)
  | succ k ih =>
    intro i g H locs ls hi hik hg hP hD hS hl
    refine lv_iload_n hx hb d_JArr_fill_5 rfl (lv_at hl 0 rfl) ?_
    refine lv_iload_n hx hb d_JArr_fill_6 rfl (lv_at hl 1 rfl) ?_
    refine lv_icmp_ge (tgt := 20) hx hb d_JArr_fill_7 (by decide) (fun c1 => ?_) (fun c1 => ?_)
    · have h : n ≤ i := (nI_leI hn (by omega)).mp c1
      exact kend g H locs ls (fun j hj => hg j (by omega)) hP hD hS
    · have hlt : i < n := by
        rcases Nat.lt_or_ge i n with q | q
        · exact q
        · exact absurd (nI_le q (by omega)) c1
      have hc : (nI i).toNatClampNeg = i := nI_clamp (by omega)
      refine lv_aload_n hx hb d_JArr_fill_10 rfl (lv_at hl 2 rfl) ?_
      refine lv_iload_n hx hb d_JArr_fill_11 rfl (lv_at hl 0 rfl) ?_
      refine lv_iload_n hx hb d_JArr_fill_12 rfl (lv_at hl 3 rfl) ?_
      refine va_iast hx hb hK hP hD hS 0 0 rfl rfl (vp_in_nI hlt hn) d_JArr_fill_13 (fun H locs hP hD hS => ?_)
      have hP : va_P (dC, dI) CL [(a, .inl (cI, n, .inl (upd g (nI i).toNatClampNeg v)))] H := hP
      have hD : va_D A [(a, .inl (cI, n, .inl (upd g (nI i).toNatClampNeg v)))] := hD
      refine lv_iinc (v := nI (i + 1)) (lv' := [(2, .int (nI (i + 1))), (3, .int (nI n)), (0, .ref a), (1, .int v)]) hx hb d_JArr_fill_14 hl (k := 0) rfl (nI_succ i).symm (by decide) rfl (fun ls hl => ?_)
      refine lv_goto (tgt := 5) hx hb d_JArr_fill_17 (by decide) ?_
      refine ih (i + 1) _ H locs ls hlt (by omega) (fun j hj => ?_) hP hD hS hl
      rw [hc]
      by_cases h : j = i
      · subst h; exact pk_us
      · rw [pk_un h]; exact hg j (by omega)
set_option maxHeartbeats 4000000 in
set_option maxRecDepth 100000 in
/-- Arrays.fill: the row holds v everywhere -/
theorem c_JArr_fill (a sz n : Nat) (f : Nat → Int32) (v : Int32) (hn : n < 2 ^ 31) : Met l y_JArr_fill (wsOf y_JArr_fill b_JArr_fill 4 none) ({ frames := 0, cells := 0, slots := 0, locals := 0 }) (va_Pc [.ref a, .int v] (PC dC dI cI cB cJ cZ sz [(a, .inl (cI, n, .inl f))])) (va_Qv (fun _ : Unit => True) (fun _ t => va_P (dC, dI) CL [(a, .inl (cI, n, .inl (fun _ => v)))] t.heap ∧ va_D (va_A [(a, .inl (cI, n, .inl f))] sz) [(a, .inl (cI, n, .inl (fun _ => v)))]) (va_A [(a, .inl (cI, n, .inl f))] sz)) 0 0 (va_A [(a, .inl (cI, n, .inl f))] sz) := by
  refine Met.ofW (cc := b_JArr_fill) (maxL := 4) (ret := none) (by decide) rfl ?_
  intro p e s m args below meth c s₁ B hml hv
  obtain ⟨rfl, hsz, hP, hK, hD0, hN⟩ := hv
  have hx := B.exec
  have hb := B.bytes
  have hr := B.returns
  have hts := atoms_spec B.pre
  have hT : ∀ w ∈ TG, w.before _ s = true := fun w h => hts w (List.mem_cons_of_mem _ h)
  have hown : s.vm.findClass R_JArr = some m.cls := findClass_of_methodNamed B.named
  have hlocks := B.notSynchronized
  subst hsz
  have hD := hD0.self (sz := s.heap.size)
  generalize hAe : va_A [(a, .inl (cI, n, .inl f))] s.heap.size = A at hD ⊢
  have hA : ∀ q : Nat, s.heap.size ≤ q → A q := fun q h => by rw [← hAe]; exact Or.inr h
  have hS : va_S A s.heap s.heap [] := va_S.rf
  have hl := lv_entry ([.ref a, .int v]) (n := 4) (Nat.le_of_ble_eq_true rfl)
  rw [lg_entry_eq]
  generalize (lg_sl ([.ref a, .int v]) ++ List.replicate (4 - (lg_sl ([.ref a, .int v])).length) Slot.unset).toArray = ls at hl ⊢
  have hl : lv_has ls 4 [(0, .ref a), (1, .int v)] := hl
  refine lv_iconst (v := 0) hx hb d_JArr_fill_0 (by decide) ?_
  refine lv_istore_n (lv' := [(2, .int 0), (0, .ref a), (1, .int v)]) hx hb d_JArr_fill_1 rfl hl (by decide) rfl (fun ls hl => ?_)
  refine lv_aload_n hx hb d_JArr_fill_2 rfl (lv_at hl 1 rfl) ?_
  refine va_alen hx hb hK hP 0 0 rfl rfl (v := nI n) rfl d_JArr_fill_3 ?_
  refine lv_istore_n (lv' := [(3, .int (nI n)), (2, .int 0), (0, .ref a), (1, .int v)]) hx hb d_JArr_fill_4 rfl hl (by decide) rfl (fun ls hl => ?_)
  refine fill_loop hx hb hK hn (fun g H locs ls hg hP hD hS => ?_) (n + 1) 0 f _ _ ls (Nat.zero_le n) (by omega) (fun j hj => absurd hj (by omega)) hP hD hS (lv_sub hl [1, 0, 2, 3] rfl)
  have hP9 := pic_eqI (g := fun _ => v) hg hP
  have hD9 : va_D A [(a, .inl (cI, n, .inl (fun _ => v)))] := apart1 hD
  exact W.vret hx hb hr (fun t ht hW => ⟨⟨(), rfl, trivial, by rw [ht]; exact hP9, hD9⟩, hS.F ht⟩) hS.2.2 d_JArr_fill_20

end
