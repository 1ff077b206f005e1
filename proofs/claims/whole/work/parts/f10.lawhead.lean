/-! THE CLAIM OUT OF ONE WALK OF THE LAW'S BODY. Your part is whole_start (and what it stands on); all else here is the same for every law, but numbers. -/
def R_law : String := "StripedVaultLaw"
def lw_P (b : Addr) (xs : List Int32) (args : Array Value) (s : State) : Prop := args = #[.ref b] ∧ s.IntsAt b xs ∧ xs.length ≤ 3072 ∧ (Jvm.Cond.and given_1 narrow_1).before args s = true
def lw_Q (_ : Array Value) (s : State) (o : Outcome) (t : State) : Prop := o = .returned (some (.int 1)) ∧ Framed s o t [] 600000 7302250
def lw_Z (below : List Frame) (a : Array Value) (s : State) : State → Prop := fun t => ∃ o, t.status = .running ∧ Ended t below o ∧ lw_Q a s o t
/-- the law's own end, with 1 on the stack, nothing written that was there before, its room as the claim has it -/
theorem lw_ret {p : Program} {l : Launch} {e : Env} {s : State} {m : MethodId} {below : List Frame} {meth : Method} {c : Code} {b : Nat} (hx : p.tables.exec = Jvm.exec) (hb : c.code = code) (hr : meth.sig.returnType = ret) (hlocks : meth.locks = false) {pc : Nat} {H : Heap} {ls : Array Slot} (hdg : decode code pc = .ok (.ireturn, 1)) : W p l e room_1 s m #[Value.ref b] below meth c H [] 600000 7302250 (lw_Z below #[Value.ref b] s) (F0 m pc ls [.int 1]) := by
  intro T hT X
  obtain ⟨fs, hret, hrun, hended, hW, hframe⟩ := X.leave (v := some (.int 1)) (hlocks := hlocks) (fun h => by rw [hr] at h; cases h)
  have hmeth' : T.vm.method? m = some meth := X.method'
  refine ⟨T.setFrames fs, ?_, .returned (some (.int 1)), hrun, hended, rfl, ⟨_, rfl⟩, hW, hframe⟩
  jvm_step X.here [X.here.top, hx, hb, hdg, hmeth', hr, ret, narrow_b1]
  (try refine ⟨rfl, ?_⟩); (try refine ⟨rfl, ?_⟩)
  first | (intro acts; rw [hret _ acts rfl rfl rfl]) | rw [hret _ _ rfl rfl rfl]
  exact Steps.refl _
/-- what holds at the law's entry: the machine, the code, the tables' words (any of lw_tbl by 'hts w (by decide +kernel)'), the script of L ints xs at the cell b, what the Statement gives of the start (any of its parts by flat_of_before) -/
def lw_At (p : Program) (s : State) (m : MethodId) (meth : Method) (c : Code) (b L : Nat) (xs : Nat → Int32) : Prop :=
  p.tables.exec = Jvm.exec ∧ c.code = code ∧ meth.sig.returnType = ret ∧ c.maxLocals = 4 ∧ s.vm.findClass R_law = some m.cls ∧ (∀ w ∈ lw_tbl, w.before #[Value.ref b] s = true) ∧ va_X b L xs s s.heap ∧ b < s.heap.size ∧ meth.locks = false ∧ (Jvm.Cond.and given_1 narrow_1).before #[Value.ref b] s = true
abbrev b_law : ByteArray := code
theorem nilP {D : va_G} {cl : List vw_C} {H : Heap} : va_P D cl [] H := fun k q h => by simp at h
theorem nilD {A : Nat → Prop} : va_D A [] := ⟨fun i j p q h => by simp at h, fun k q h => by simp at h⟩
/-- two worlds have no cell in common -/
def Sep (ad : Nat → Nat) (NN : Nat) (ad' : Nat → Nat) (NN' : Nat) : Prop := ∀ i j : Nat, i < NN → j < NN' → ad i ≠ ad' j
section Away
variable {dC : Nat → ClassId} {dI : Nat → Nat → Nat} {cI cB cJ cZ : ClassId} {ad : Nat → Nat} {st : Nat → Nat → Nat} {kc : Nat → Nat} {NN : Nat} {A : Nat → Prop} {x : St} {H H1 : Heap} {ws : va_W} {ad' : Nat → Nat} {NN' : Nat}
theorem pic_get {k : Nat} {q : Nat × va_E} (h : (pic ad st kc NN cI cB cJ cZ x)[k]? = some q) : k < NN ∧ q.1 = ad k := by
  by_cases hk : k < NN
  · rw [pic_at hk] at h
    exact ⟨hk, by rw [← Option.some.inj h]⟩
  · rw [List.getElem?_eq_none (by simp [pic]; omega)] at h
    exact absurd h (by simp)
theorem Wd.lt (h : Wd dC dI cI cB cJ cZ ad st kc NN A x H) {i : Nat} (hi : i < NN) : ad i < H.size := (h.1 i _ (pic_at hi)).lt
theorem Wd.away (h : Wd dC dI cI cB cJ cZ ad st kc NN A x H) (hk : ∀ q : Nat, q < H.size → ¬ va_A ws H.size q → H1[q]? = H[q]?) (hd : ∀ i, i < NN → ∀ (k : Nat) (e : va_E), ws[k]? ≠ some (ad i, e)) : Wd dC dI cI cB cJ cZ ad st kc NN A x H1 := by
  refine ⟨h.1.kept (fun k q hq => ?_), h.2⟩
  have hg := pic_get hq
  have hlt := (h.1 k q hq).lt
  refine hk q.1 hlt (fun z => ?_)
  rcases z with ⟨a, b, z⟩ | z
  · rw [hg.2] at z
    exact hd k hg.1 a b z
  · omega
theorem Wd.sep (h : Wd dC dI cI cB cJ cZ ad st kc NN (va_A ws H.size) x H1) (hlt : ∀ j, j < NN' → ad' j < H.size) (hd : ∀ j, j < NN' → ∀ (k : Nat) (e : va_E), ws[k]? ≠ some (ad' j, e)) : Sep ad NN ad' NN' := by
  intro i j hi hj e
  have z := h.2.1.2 i _ (pic_at hi)
  rcases z with ⟨k, b, z⟩ | z
  · have z : ws[k]? = some (ad i, b) := z
    rw [e] at z
    exact hd j hj k b z
  · have z : H.size ≤ ad i := z
    rw [e] at z
    exact absurd (hlt j hj) (Nat.not_lt.mpr z)
theorem Sep.hd (h : Sep ad NN ad' NN') : ∀ j, j < NN' → ∀ (k : Nat) (e : va_E), (pic ad st kc NN cI cB cJ cZ x)[k]? ≠ some (ad' j, e) := fun j hj k e z => h k j (pic_get z).1 hj (pic_get z).2.symm
theorem Sep.hd' (h : Sep ad' NN' ad NN) : ∀ j, j < NN' → ∀ (k : Nat) (e : va_E), (pic ad st kc NN cI cB cJ cZ x)[k]? ≠ some (ad' j, e) := fun j hj k e z => h j k hj (pic_get z).1 (pic_get z).2
end Away
/-- what holds of both objects at the law's loop -/
def LB (dC : Nat → ClassId) (dI : Nat → Nat → Nat) (cI cB cJ cZ : ClassId) (A : Nat → Prop) (ad ad' : Nat → Nat) (NN : Nat) (κ : Nat → Nat) (x y : St) (H : Heap) : Prop :=
  152 ≤ NN ∧ Wd dC dI cI cB cJ cZ ad stC kcC NN A x H ∧ Wd dC dI cI cB cJ cZ ad' stM kcM 115 A y H ∧ Sep ad NN ad' 115 ∧ Inv κ x y
theorem ix_in {i t L : Nat} {v : Int32} (hv : v = nI t) (h : i + t < L) (hL : L ≤ 3072) : vp_in (nI i + v) L := by
  subst hv
  rw [nI_add]
  exact vp_in_nI h (by omega)
theorem lw_six {i L : Nat} (hi : i < 4000) (hL : L ≤ 3072) (c : ¬ (Int32.ofNat L - 6 < nI i)) : i + 6 ≤ L := by
  rcases Nat.lt_or_ge L (i + 6) with q | q
  · refine absurd ?_ c
    have e6 : (6 : Int32) = nI 6 := rfl
    rw [Int32.lt_iff_toInt_lt, nI_toInt (by omega), show Int32.ofNat L - 6 = nI L - nI 6 from rfl, z_sub]
    rw [nI_toInt (by omega), nI_toInt (by omega)]
    omega
  · exact q
