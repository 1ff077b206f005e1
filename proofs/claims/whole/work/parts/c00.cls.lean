section PicW
variable {dC : Nat → ClassId} {dI : Nat → Nat → Nat} {A : Nat → Prop} {H : Heap} {ad : Nat → Nat} {st : Nat → Nat → Nat} {kc : Nat → Nat} {NN : Nat} {cI cB cJ cZ : ClassId} {x : St} {o t : Nat} {f : Nat → Int32}
theorem row_W : (setW x o f).2.2.2.1 o = f := by show (if o = o then _ else _) = _; rw [if_pos rfl]
theorem ent_W {b : Nat} (h : o ≠ b) : ent ad st cI cB cJ cZ t (setW x b f) o = ent ad st cI cB cJ cZ t x o := by
  unfold ent
  have e0 : fl ad st t (setW x b f) o = fl ad st t x o := rfl
  rw [e0]
  have e : (setW x b f).2.2.2.1 o = x.2.2.2.1 o := by show (if o = b then _ else _) = _; rw [if_neg h]
  rw [e]; rfl
theorem pic_Wi (ho : o < NN) (hk : kc o = 20) : (pic ad st kc NN cI cB cJ cZ x).set o (ad o, .inl (cI, fN x o, .inl f)) = pic ad st kc NN cI cB cJ cZ (setW x o f) := by
  have e2 : (Sum.inl (cI, fN x o, Sum.inl f) : va_E) = ent ad st cI cB cJ cZ (kc o) (setW x o f) o := by
    rw [hk]; show _ = (Sum.inl (cI, (setW x o f).2.2.2.2.2 o, Sum.inl ((setW x o f).2.2.2.1 o)) : va_E); rw [row_W]; rfl
  rw [e2]
  exact pic_set ho (fun j hj => ent_W hj)
theorem pic_Wb (ho : o < NN) (hk : kc o = 21) : (pic ad st kc NN cI cB cJ cZ x).set o (ad o, .inl (cB, fN x o, .inl f)) = pic ad st kc NN cI cB cJ cZ (setW x o f) := by
  have e2 : (Sum.inl (cB, fN x o, Sum.inl f) : va_E) = ent ad st cI cB cJ cZ (kc o) (setW x o f) o := by
    rw [hk]; show _ = (Sum.inl (cB, (setW x o f).2.2.2.2.2 o, Sum.inl ((setW x o f).2.2.2.1 o)) : va_E); rw [row_W]; rfl
  rw [e2]
  exact pic_set ho (fun j hj => ent_W hj)
theorem Wd.rowi (ho : o < NN) (hk : kc o = 20) (hP : va_P (dC, dI) CL ((pic ad st kc NN cI cB cJ cZ x).set o (ad o, .inl (cI, fN x o, .inl f))) H) (hD : va_D A ((pic ad st kc NN cI cB cJ cZ x).set o (ad o, .inl (cI, fN x o, .inl f)))) (hT : WT kc NN x) : Wd dC dI cI cB cJ cZ ad st kc NN A (setW x o f) H := by
  rw [pic_Wi ho hk] at hP hD
  exact ⟨hP, hD, hT⟩
theorem Wd.rowb (ho : o < NN) (hk : kc o = 21) (hP : va_P (dC, dI) CL ((pic ad st kc NN cI cB cJ cZ x).set o (ad o, .inl (cB, fN x o, .inl f))) H) (hD : va_D A ((pic ad st kc NN cI cB cJ cZ x).set o (ad o, .inl (cB, fN x o, .inl f)))) (hT : WT kc NN x) : Wd dC dI cI cB cJ cZ ad st kc NN A (setW x o f) H := by
  rw [pic_Wb ho hk] at hP hD
  exact ⟨hP, hD, hT⟩
end PicW
theorem st_all : ∀ o, o < 152 → ∀ k, k < 21 → fk (kcC o) k = 3 → stC o k < 152 ∧ kcC (stC o k) = rt (kcC o) k := by decide +kernel
theorem fk_small {t k : Nat} (h : fk t k = 3) (h2 : t < 12) : k < 21 := by
  rcases Nat.lt_or_ge k 21 with q | q
  · exact q
  · exfalso
    have hl : ∀ t, t < 12 → (fkT.getD t []).length ≤ 21 := by decide
    have e : fk t k = 0 := by
      unfold fk
      rw [List.getD_eq_getElem?_getD, List.getElem?_eq_none (Nat.le_trans (hl t h2) q)]
      rfl
    rw [e] at h
    exact absurd h (by decide)
set_option maxRecDepth 100000 in
theorem kc_new {o : Nat} (h : 152 ≤ o) : kcC o = 21 := by
  unfold kcC
  rw [List.getD_eq_getElem?_getD, List.getElem?_eq_none (Nat.le_trans (show kcL.length ≤ 152 by decide) h)]
  rfl
theorem st_ty {o t k NN : Nat} (hNN : 152 ≤ NN) (h : o < NN) (hk : kcC o = t) (hf : fk t k = 3) (h2 : t < 12 := by decide) : stC o k < NN ∧ kcC (stC o k) = rt t k := by
  rcases Nat.lt_or_ge o 152 with q | q
  · subst hk
    have z := st_all o q k (fk_small hf h2) hf
    exact ⟨Nat.lt_of_lt_of_le z.1 hNN, z.2⟩
  · exfalso
    rw [kc_new q] at hk
    omega
def cOwn (i : Nat) : String := ["StripedVault$Schema", "StripedVault$Schema", "StripedVault$Schema", "StripedVault$Schema", "StripedVault$Schema", "StripedVault$Schema", "StripedVault$Schema", "StripedVault$Schema", "StripedVault$Records", "StripedVault$Records", "StripedVault$Assembler", "StripedVault$Assembler", "StripedVault$Assembler", "StripedVault$Query", "StripedVault$Query", "StripedVault$Query", "StripedVault$Query", "StripedVault$Query", "StripedVault$Query", "StripedVault$Query", "StripedVault$Query", "StripedVault$Query", "StripedVault$Query", "StripedVault$Query", "StripedVault$Query", "StripedVault$Query", "StripedVault$Query", "StripedVault$Query", "StripedVault$Query"].getD i ""
def cIdx (i : Nat) : Nat := [141, 147, 149, 155, 157, 159, 161, 163, 181, 187, 174, 143, 145, 75, 157, 159, 161, 163, 90, 100, 102, 196, 198, 200, 202, 204, 206, 208, 210].getD i 0
def cTx (i : Nat) : String := ["required", "optional", "repeated", "bool", "int", "long", "text", "group", "true", "false", "\\x", "true", "false", "select", "count", "sum", "min", "max", "where", "group", "by", "and", "or", "not", "is", "null", "in", "true", "false"].getD i ""
def cJ (i : Nat) : Nat := [0, 1, 2, 3, 4, 5, 6, 7, 8, 9, 10, 8, 9, 11, 12, 13, 14, 15, 16, 7, 17, 18, 19, 20, 21, 22, 23, 8, 9].getD i 0
/-- what was there before the law began: the statics' rows, the String constants -/
def CK (E : Heap) (tM tC : Nat) (kK kV : Nat → Nat) (U : State) : Prop :=
  va_Z R_V "MAGIC" "[B" (.ref tM) (fun q => E.size ≤ q) U E ∧ va_T .byte tM 4 (fun j => .int (magicI j)) (fun q => E.size ≤ q) U E ∧ va_Z R_V "CRC_OF_NIBBLE" "[I" (.ref tC) (fun q => E.size ≤ q) U E ∧ va_T .int tC 16 (fun j => .int (crcI j)) (fun q => E.size ≤ q) U E ∧
  va_Z "java/lang/String" "COMPACT_STRINGS" "Z" (.int 1) (fun q => E.size ≤ q) U E ∧ va_Zq "jdk/internal/util/Preconditions" "SIOOBE_FORMATTER" "Ljava/util/function/BiFunction;" (fun q => E.size ≤ q) U E ∧ vk_S NSTR sLen sByt kK kV (fun q => E.size ≤ q) U E ∧ ∀ i, i < NCON → vk_R (cOwn i) (cIdx i) (cTx i) (kK (cJ i)) U
def CE (E : Heap) (tM tC : Nat) (kK kV : Nat → Nat) (A : Nat → Prop) (U : State) : Prop :=
  (∀ q : Nat, A q → E.size ≤ q) ∧ E.size ≤ U.heap.size ∧ (∀ q : Nat, q < E.size → U.heap[q]? = E[q]?) ∧ CK E tM tC kK kV U
theorem CK.same {E : Heap} {tM tC : Nat} {kK kV : Nat → Nat} {u U : State} (h : u.vm = U.vm) (z : CK E tM tC kK kV u) : CK E tM tC kK kV U := by
  have hv : u.vm.Alike U.vm := by rw [h]; exact Vm.Alike.refl U.vm
  obtain ⟨z1, z2, z3, z4, z5, z6, z7, z8⟩ := z
  exact ⟨z1.moved hv, z2.moved hv, z3.moved hv, z4.moved hv, z5.moved hv, z6.moved hv, z7.moved hv, fun i hi => vk_R.same h.symm (z8 i hi)⟩
theorem CK.warm {E : Heap} {tM tC : Nat} {kK kV : Nat → Nat} {s U : State} (h : s.WarmedH U.vm) (z : CK E tM tC kK kV s) : CK E tM tC kK kV U := by
  have hv : s.vm.Alike U.vm := h.alike
  obtain ⟨z1, z2, z3, z4, z5, z6, z7, z8⟩ := z
  exact ⟨z1.moved hv, z2.moved hv, z3.moved hv, z4.moved hv, z5.moved hv, z6.moved hv, z7.moved hv, fun i hi => vk_R.warm h (z8 i hi)⟩
section CEuse
variable {E : Heap} {tM tC : Nat} {kK kV : Nat → Nat} {A B : Nat → Prop} {s : State}
theorem CE.up (h : CE E tM tC kK kV A s) : ∀ q : Nat, A q → E.size ≤ q := h.1
theorem CE.keep (h : CE E tM tC kK kV A s) : ∀ a : Nat, a < E.size → ¬ A a → s.heap[a]? = E[a]? := fun a ha _ => h.2.2.1 a ha
theorem CE.zM (h : CE E tM tC kK kV A s) : va_Z R_V "MAGIC" "[B" (.ref tM) A s s.heap := (h.2.2.2.1.narrow h.up).kept h.keep
theorem CE.rM (h : CE E tM tC kK kV A s) : va_T .byte tM 4 (fun j => .int (magicI j)) A s s.heap := (h.2.2.2.2.1.narrow h.up).kept h.keep
theorem CE.zC (h : CE E tM tC kK kV A s) : va_Z R_V "CRC_OF_NIBBLE" "[I" (.ref tC) A s s.heap := (h.2.2.2.2.2.1.narrow h.up).kept h.keep
theorem CE.rC (h : CE E tM tC kK kV A s) : va_T .int tC 16 (fun j => .int (crcI j)) A s s.heap := (h.2.2.2.2.2.2.1.narrow h.up).kept h.keep
theorem CE.zS (h : CE E tM tC kK kV A s) : va_Z "java/lang/String" "COMPACT_STRINGS" "Z" (.int 1) A s s.heap := (h.2.2.2.2.2.2.2.1.narrow h.up).kept h.keep
theorem CE.zF (h : CE E tM tC kK kV A s) : va_Zq "jdk/internal/util/Preconditions" "SIOOBE_FORMATTER" "Ljava/util/function/BiFunction;" A s s.heap := (h.2.2.2.2.2.2.2.2.1.narrow h.up).kept h.keep
theorem CE.sS (h : CE E tM tC kK kV A s) : vk_S NSTR sLen sByt kK kV A s s.heap := (h.2.2.2.2.2.2.2.2.2.1.narrow h.up).kept h.keep
theorem CE.str (h : CE E tM tC kK kV A s) (i : Nat) (hi : i < NCON) : vk_R (cOwn i) (cIdx i) (cTx i) (kK (cJ i)) s := h.2.2.2.2.2.2.2.2.2.2 i hi
theorem CE.at {H : Heap} {locs : List Loc} {U : State} (h : CE E tM tC kK kV A s) (hS : va_S A s.heap H locs) (hF : ∀ q : Nat, B q → A q) (hU : U.heap = H) (hM : s.WarmedH U.vm) : CE E tM tC kK kV B U := by
  refine ⟨fun q z => h.1 q (hF q z), by rw [hU]; exact Nat.le_trans h.2.1 hS.1, fun q hq => ?_, h.2.2.2.warm hM⟩
  rw [hU, hS.2.1 q (Nat.lt_of_lt_of_le hq h.2.1) (fun z => absurd (h.1 q z) (Nat.not_le.mpr hq))]
  exact h.2.2.1 q hq
end CEuse
/-- a contract's start over the class's world -/
def PVc (dC : Nat → ClassId) (dI : Nat → Nat → Nat) (cI cB cJ cZ : ClassId) (ad : Nat → Nat) (st : Nat → Nat → Nat) (kc : Nat → Nat) (NN : Nat) (E : Heap) (tM tC : Nat) (kK kV : Nat → Nat) (sz : Nat) (x : St) (U : State) : Prop :=
  PW dC dI cI cB cJ cZ ad st kc NN sz x U ∧ CE E tM tC kK kV (va_A (pic ad st kc NN cI cB cJ cZ x) sz) U
theorem PVc.blind {dC : Nat → ClassId} {dI : Nat → Nat → Nat} {cI cB cJ cZ : ClassId} {ad : Nat → Nat} {st : Nat → Nat → Nat} {kc : Nat → Nat} {NN : Nat} {E : Heap} {tM tC : Nat} {kK kV : Nat → Nat} {sz : Nat} {x : St} {av : List Value} : FrameBlind (va_Pc av (PVc dC dI cI cB cJ cZ ad st kc NN E tM tC kK kV sz x)) := fun a U g mk q => by
  obtain ⟨q0, ⟨q1, qW, qK, qN⟩, q2, q3, q4, q5⟩ := q
  exact ⟨q0, ⟨q1, qW, va_K.moved (u := U) (U := U.calling g mk a) (Vm.Alike.refl U.vm) qK, NW.same (u := U) (U := U.calling g mk a) rfl qN⟩, q2, q3, q4, CK.same (u := U) (U := U.calling g mk a) rfl q5⟩
theorem PVc.at {dC : Nat → ClassId} {dI : Nat → Nat → Nat} {cI cB cJ cZ : ClassId} {ad : Nat → Nat} {st : Nat → Nat → Nat} {kc : Nat → Nat} {NN : Nat} {E : Heap} {tM tC : Nat} {kK kV : Nat → Nat} {A : Nat → Prop} {s : State} {H : Heap} {locs : List Loc} {x : St} (av : List Value) (hW : Wd dC dI cI cB cJ cZ ad st kc NN A x H) (hK : va_K (dC, dI) CL (TY cI cB cJ cZ) s) (hN : NW s) (hE : CE E tM tC kK kV A s) (hS : va_S A s.heap H locs) (hF : ∀ q : Nat, va_A (pic ad st kc NN cI cB cJ cZ x) H.size q → A q) :
    ∀ U : State, U.heap = H → s.WarmedH U.vm → va_Pc av (PVc dC dI cI cB cJ cZ ad st kc NN E tM tC kK kV H.size x) av.toArray U := fun U hU hM =>
  ⟨rfl, (PW.at av hW hK hN U hU hM).2, hE.at hS hF hU hM⟩
