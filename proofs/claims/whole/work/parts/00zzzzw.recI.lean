/-! records kept: all that write wants of them -/
def RecI (F : List SFd) (E : List SEn) (RS : List (List SEn)) : Prop := RelR F E RS ∧ (∀ e, e ∈ E → okEn F e) ∧ ∀ ro, ro ∈ RS → tx ro ≤ 4000
theorem RecI.nil (F : List SFd) : RecI F [] [] := ⟨RelR.nil F, fun e h => absurd h (by simp), fun e h => absurd h (by simp)⟩
theorem RecI.add {T : Nat → Int32} {n : Nat} {F : List SFd} {E : List SEn} {RS : List (List SEn)} (r : RecI F E RS) (hw : WfS F) (hF : F ≠ []) (hn : n ≤ 4000) (h : (pGrp T n F 18 0 (-1) 0 nd1).1 = -1) (hl : (pGrp T n F 18 0 (-1) 0 nd1).2.2.length < 2 ^ 30) : RecI F (E ++ eGrp T n F 18 0 (-1) 0 nd1 0) (RS ++ [rowS F (pGrp T n F 18 0 (-1) 0 nd1).2.2 (ncol F)]) := by
  have hFl := hw.1
  have q := grp_tx (T := T) (n := n) (F := F) (by omega) (by omega) 18 0 (-1) 0 nd1 0 (Nat.zero_le _) h
  have s := sum_rec hw hF (by omega) h hl
  refine ⟨r.1.add hw hF (by omega) h hl, fun e he => ?_, fun ro hro => ?_⟩
  · rcases List.mem_append.mp he with z | z
    · exact r.2.1 e z
    · exact q.2.2 e z
  · rcases List.mem_append.mp hro with z | z
    · exact r.2.2 ro z
    · rw [List.mem_singleton] at z
      rw [z, ← s.2]
      omega
section
variable {F : List SFd} {E : List SEn} {RS : List (List SEn)}
theorem ty_lt {c : Nat} (hw : WfS F) (hc : c < ncol F) : tyC F c < 4 ∧ fTy F (lfC F c) = nI (tyC F c) := by
  obtain ⟨l1, l2, -⟩ := lfC_ok hc
  obtain ⟨-, t0, t4, -⟩ := hw.2.2.2.1 _ l1
  refine ⟨?_, by unfold tyC; rw [nI_uI]⟩
  unfold tyC
  obtain ⟨k, k1, k2⟩ := by_of (v := fTy F (lfC F c)) t0 (Int32.le_trans t4 (by decide))
  rw [k2] at t4 l2 ⊢
  rw [uI_nI (by omega)]
  have h4 : k ≤ 4 := by
    rw [Int32.le_iff_toInt_le, nI_toInt (by omega)] at t4
    have z : (4 : Int32).toInt = 4 := rfl
    omega
  have : k ≠ 4 := fun z => l2 (by rw [z]; rfl)
  omega
theorem okI_of {c : Nat} (h : ∀ e, e ∈ E → okEn F e) {i : Nat} (hi : i ∈ idx E c) : okI (tyC F c) E i := by
  obtain ⟨i1, i2⟩ := idx_mem.mp hi
  have hm : en E i ∈ E := by
    show E.getD i en0 ∈ E
    rw [List.getD_eq_getElem?_getD, List.getElem?_eq_getElem i1]
    exact List.getElem_mem i1
  have q := h _ hm
  have e1 : (en E i).1 = c := i2
  unfold okEn at q
  rw [e1] at q
  exact q
theorem WrE_of (hw : WfS F) (hN : NmS F) (h : RecI F E RS) (hE : E.length ≤ 10000) (hR : RS.length ≤ 2000) : WrE F E RS := by
  refine ⟨hw, fun f hf => ⟨?_, fun j hj => hN f hf j hj⟩, h.1, fun c hc => ?_, fun ro hro => Nat.le_trans (h.2.2 ro hro) (by decide), hE, hR⟩
  · have := (hw.2.2.2.1 f hf).2.2.2.2
    omega
  · have l1 := (lfC_ok hc).1
    exact ⟨(ty_lt hw hc).1, rF_le hw l1, dG_le hw (Or.inr ⟨_, l1, rfl⟩), fun i hi => okI_of h.2.1 hi⟩
theorem mem_E (h : RelR F E RS) {e : SEn} (he : e ∈ RS.flatten) : e ∈ E ∧ e.1 < ncol F := by
  obtain ⟨ro, h1, h2⟩ := List.mem_flatten.mp he
  have hc := (h.2.1 ro h1).1 e h2
  refine ⟨?_, hc⟩
  have q : e ∈ colE e.1 E := by
    rw [h.2.2.1 e.1 hc]
    exact List.mem_flatten.mpr ⟨colE e.1 ro, List.mem_map.mpr ⟨ro, h1, rfl⟩, List.mem_filter.mpr ⟨h2, decide_eq_true rfl⟩⟩
  exact (List.mem_filter.mp q).1
theorem en_mem {L : List SEn} {i : Nat} (h : i < L.length) : en L i ∈ L := by
  show L.getD i en0 ∈ L
  rw [List.getD_eq_getElem?_getD, List.getElem?_eq_getElem h]
  exact List.getElem_mem h
theorem row_big {C : Nat} {ro : List SEn} (h : okRow C ro) : C ≤ ro.length := by
  obtain ⟨-, h2, h3⟩ := h
  have key : ∀ n, n ≤ C → n ≤ ((List.range n).flatMap (fun c => colE c ro)).length := by
    intro n
    induction n with
    | zero => intro _; exact Nat.zero_le _
    | succ n ih =>
      intro hn
      have q := ih (by omega)
      obtain ⟨e, l', e1, -⟩ := h3 n (by omega)
      rw [List.range_succ, List.flatMap_append, List.length_append]
      have : (List.flatMap (fun c => colE c ro) [n]).length = (colE n ro).length := by simp
      rw [this, e1, List.length_cons]
      omega
  have := key C (Nat.le_refl _)
  rw [← h2] at this
  exact this
theorem rows_big {C : Nat} : ∀ RS : List (List SEn), (∀ ro, ro ∈ RS → okRow C ro) → RS.length * C ≤ RS.flatten.length := by
  intro RS
  induction RS with
  | nil => intro _; rw [List.length_nil, Nat.zero_mul]; exact Nat.zero_le _
  | cons ro RS ih =>
    intro h
    have a := row_big (h ro List.mem_cons_self)
    have b := ih (fun r hr => h r (List.mem_cons_of_mem _ hr))
    rw [List.length_cons, List.flatten_cons, List.length_append, Nat.succ_mul]
    omega
theorem bnd_len2 {ty : Nat} {P : List PV} (ok : ∀ i, i < P.length → okVv ty (pvd P i)) : (bndB ty P).length ≤ 530 := by
  unfold bndB
  split
  · exact Nat.zero_le _
  · rename_i c
    have m1 := mnF_le (ty := ty) (P := P) (P.length - 1)
    have m2 := mxF_le (ty := ty) (P := P) (P.length - 1)
    have a := told_len (ok (mnF ty P (P.length - 1)) (by omega))
    have b := told_len (ok (mxF ty P (P.length - 1)) (by omega))
    rw [List.length_append]
    omega
theorem cs_in {c r e i : Nat} (hre : r ≤ e) (hi : i ∈ cs RS c r e) : en RS.flatten i ∈ RS.flatten ∧ (en RS.flatten i).1 = c := by
  have hm : en RS.flatten i ∈ (cs RS c r e).map (en RS.flatten) := List.mem_map.mpr ⟨i, hi, rfl⟩
  rw [cs_rw hre] at hm
  obtain ⟨l, h1, h2⟩ := List.mem_flatten.mp hm
  obtain ⟨ro, h3, rfl⟩ := List.mem_map.mp h1
  obtain ⟨h4, h5⟩ := List.mem_filter.mp h2
  exact ⟨List.mem_flatten.mpr ⟨ro, List.mem_of_mem_drop (List.mem_of_mem_take h3), h4⟩, of_decide_eq_true h5⟩
theorem WrH_of (hw : WfS F) (hN : NmS F) (h : RecI F E RS) (hE : E.length ≤ 10000) (hlv : ∀ e, e ∈ E → e.2.2.1 < 128) : WrH F RS := by
  have hc64 := hw.2.1
  have ok1 : ∀ {c i : Nat}, c < ncol F → en RS.flatten i ∈ RS.flatten → (en RS.flatten i).1 = c → okI (tyC F c) RS.flatten i := fun {c i} _ hm e1 => by
    have q := h.2.1 _ (mem_E h.1 hm).1
    unfold okEn at q
    rw [e1] at q
    exact q
  have okv : ∀ {c r e : Nat}, c < ncol F → r ≤ e → ∀ k, k < (pvs RS.flatten (vs RS.flatten (mdC F c) (cs RS c r e))).length → okI (tyC F c) RS.flatten ((vs RS.flatten (mdC F c) (cs RS c r e)).getD k 0) := fun {c r e} hc hre k hk => by
    rw [pvs_len] at hk
    have hm := (List.mem_filter.mp (getD_mem (B := vs RS.flatten (mdC F c) (cs RS c r e)) hk)).1
    obtain ⟨a, b⟩ := cs_in hre hm
    exact ok1 hc a b
  refine ⟨hw, fun f hf => ⟨by have := (hw.2.2.2.1 f hf).2.2.2.2; omega, fun j hj => hN f hf j hj⟩, ⟨fun i hi => ?_, fun c hc => ⟨(ty_lt hw hc).2, (ty_lt hw hc).1, dG_le hw (Or.inr ⟨_, (lfC_ok hc).1, rfl⟩), fun i hi e1 => (ok1 hc (en_mem hi) e1).2.1, fun fr to hft hto => Or.inr (bnd_len2 (fun k hk => ?_))⟩⟩, ?_, fun c hc => ⟨rF_le hw (lfC_ok hc).1, fun r hr => ?_, fun r e hre he hl => ?_, fun r e _ _ => oF_tx _⟩⟩
  · have hm := en_mem hi
    obtain ⟨a, b⟩ := mem_E h.1 hm
    exact ⟨by omega, hlv _ a⟩
  · have q := okv hc hft k hk
    rw [pvs_len] at hk
    rw [pvd_pvq hk]
    exact q.2.1
  · have a := rows_big RS h.1.2.1
    have b := h.1.2.2.2.1
    omega
  · rw [cs_tx (Nat.le_succ r)]
    have hl := rwX_len (RS := RS) (c := c) (r := r) (e := r + 1) (by omega)
    obtain ⟨q, q1, -⟩ := rwX_cons (RS := RS) (c := c) (r := r) (e := r + 1) (Nat.lt_succ_self r) (by omega)
    have hm : q ∈ rwX RS c r (r + 1) := by rw [q1]; exact List.mem_singleton.mpr rfl
    obtain ⟨ro, h3, h4⟩ := List.mem_map.mp hm
    have h5 : ro ∈ RS := List.mem_of_mem_drop (List.mem_of_mem_take h3)
    rw [q1, List.flatten_cons, List.flatten_nil, List.append_nil, ← h4]
    exact Nat.le_trans (tx_cole ro) (Nat.le_trans (h.2.2 ro h5) (by decide))
  · have vle := vs_le (E := RS.flatten) (md := mdC F c) (es := cs RS c r e)
    refine ⟨by rw [pvs_len]; omega, fun k hk => ?_⟩
    have q := okv hc hre k hk
    rw [pvs_len] at hk
    have e1 : (pvs RS.flatten (vs RS.flatten (mdC F c) (cs RS c r e))).getD k (0, []) = pvI RS.flatten ((vs RS.flatten (mdC F c) (cs RS c r e)).getD k 0) := pvd_pvq hk
    rw [e1]
    exact ⟨q.1, q.2.1⟩
end
