def setW (x : St) (o : Nat) (f : Nat → Int32) : St := (x.1, x.2.1, x.2.2.1, fun a => if a = o then f else x.2.2.2.1 a, x.2.2.2.2)
section PicW
variable {dC : Nat → ClassId} {dI : Nat → Nat → Nat} {A : Nat → Prop} {H : Heap} {ad : Nat → Nat} {st : Nat → Nat → Nat} {kc : Nat → Nat} {NN : Nat} {cI cB cJ cZ : ClassId} {x : St} {o t : Nat} {f : Nat → Int32}
theorem row_W : (setW x o f).2.2.2.1 o = f := by show (if o = o then _ else _) = _; rw [if_pos rfl]
theorem ent_W {b : Nat} (h : o ≠ b) : ent ad st cI cB cJ cZ t (setW x b f) o = ent ad st cI cB cJ cZ t x o := by
  unfold ent
  have e0 : fl ad st t (setW x b f) o = fl ad st t x o := rfl
  rw [e0]
  have e : (setW x b f).2.2.2.1 o = x.2.2.2.1 o := by show (if o = b then _ else _) = _; rw [if_neg h]
  rw [e]; rfl
theorem pic_Wi (ho : o < NN) (hk : kc o = 20) : (pic ad st kc NN cI cB cJ cZ x).set o (ad o, .inl (cI, fN x o, .inl f)) = pic ad st kc NN cI cB cJ cZ (setW x o f) := by
  have e2 : (Sum.inl (cI, fN x o, Sum.inl f) : va_E) = ent ad st cI cB cJ cZ (kc o) (setW x o f) o := by
    rw [hk]; show _ = (Sum.inl (cI, (setW x o f).2.2.2.2.2 o, Sum.inl ((setW x o f).2.2.2.1 o)) : va_E); rw [row_W]; rfl
  rw [e2]
  exact pic_set ho (fun j hj => ent_W hj)
theorem pic_Wb (ho : o < NN) (hk : kc o = 21) : (pic ad st kc NN cI cB cJ cZ x).set o (ad o, .inl (cB, fN x o, .inl f)) = pic ad st kc NN cI cB cJ cZ (setW x o f) := by
  have e2 : (Sum.inl (cB, fN x o, Sum.inl f) : va_E) = ent ad st cI cB cJ cZ (kc o) (setW x o f) o := by
    rw [hk]; show _ = (Sum.inl (cB, (setW x o f).2.2.2.2.2 o, Sum.inl ((setW x o f).2.2.2.1 o)) : va_E); rw [row_W]; rfl
  rw [e2]
  exact pic_set ho (fun j hj => ent_W hj)
theorem Wd.rowi (ho : o < NN) (hk : kc o = 20) (hP : va_P (dC, dI) CL ((pic ad st kc NN cI cB cJ cZ x).set o (ad o, .inl (cI, fN x o, .inl f))) H) (hD : va_D A ((pic ad st kc NN cI cB cJ cZ x).set o (ad o, .inl (cI, fN x o, .inl f)))) (hT : WT kc NN x) : Wd dC dI cI cB cJ cZ ad st kc NN A (setW x o f) H := by
  rw [pic_Wi ho hk] at hP hD
  exact ⟨hP, hD, hT⟩
theorem Wd.rowb (ho : o < NN) (hk : kc o = 21) (hP : va_P (dC, dI) CL ((pic ad st kc NN cI cB cJ cZ x).set o (ad o, .inl (cB, fN x o, .inl f))) H) (hD : va_D A ((pic ad st kc NN cI cB cJ cZ x).set o (ad o, .inl (cB, fN x o, .inl f)))) (hT : WT kc NN x) : Wd dC dI cI cB cJ cZ ad st kc NN A (setW x o f) H := by
  rw [pic_Wb ho hk] at hP hD
  exact ⟨hP, hD, hT⟩
end PicW
def kcL : List Nat := [0, 1, 20, 21, 1, 20, 21, 1, 20, 21, 2, 21, 3, 20, 20, 20, 20, 20, 20, 20, 20, 20, 20, 21, 3, 20, 20, 20, 20, 20, 20, 20, 20, 20, 20, 21, 4, 21, 21, 22, 21, 20, 21, 20, 20, 5, 1, 20, 21, 1, 20, 21, 1, 20, 21, 1, 20, 21, 1, 20, 21, 20, 20, 20, 22, 20, 22, 22, 20, 20, 3, 20, 20, 20, 20, 20, 20, 20, 20, 20, 20, 21, 21, 21, 21, 22, 20, 20, 20, 20, 20, 20, 22, 22, 20, 22, 7, 6, 20, 22, 22, 22, 8, 20, 8, 20, 9, 20, 20, 20, 20, 20, 20, 20, 20, 22, 21, 9, 20, 20, 20, 20, 20, 20, 20, 20, 22, 21, 10, 23, 20, 21, 22, 20, 20, 20, 23, 10, 23, 20, 21, 22, 20, 20, 20, 23, 11, 1, 20, 21, 20, 20]
def kcC (o : Nat) : Nat := kcL.getD o 21
def stL : List (List Nat) := [[0, 0, 0, 10, 0, 0, 36, 45, 97, 96, 0, 0, 0, 0, 146], [0, 0, 0, 0, 2, 0, 0], [], [], [0, 0, 0, 0, 5, 0, 0], [], [], [0, 0, 0, 0, 8, 0, 0], [], [], [0, 0, 0, 0, 0, 0, 0, 0], [], [0, 0, 13, 14, 15, 16, 17, 18, 19, 20, 21, 22, 23], [], [], [], [], [], [], [], [], [], [], [], [0, 0, 25, 26, 27, 28, 29, 30, 31, 32, 33, 34, 35], [], [], [], [], [], [], [], [], [], [], [], [0, 0, 0, 0, 0, 37, 38, 39, 40, 41, 43, 44, 42, 0, 0], [], [], [], [], [], [], [], [], [0, 49, 52, 0, 0, 0, 0, 61, 62, 63, 64, 0, 0, 0, 0, 65, 66, 67, 68, 69], [0, 0, 0, 0, 47, 0, 0], [], [], [0, 0, 0, 0, 50, 0, 0], [], [], [0, 0, 0, 0, 53, 0, 0], [], [], [0, 0, 0, 0, 56, 0, 0], [], [], [0, 0, 0, 0, 59, 0, 0], [], [], [], [], [], [], [], [], [], [], [], [0, 0, 71, 72, 73, 74, 75, 76, 77, 78, 79, 80, 81], [], [], [], [], [], [], [], [], [], [], [], [], [], [], [], [], [], [], [], [], [], [], [], [], [], [97, 102, 104, 0, 98, 0, 99, 100, 101, 0, 0, 0, 0, 0, 0, 0, 0], [0, 0, 0, 0, 0, 70, 82, 83, 84, 85, 86, 87, 88, 89, 90, 91, 92, 93, 94, 95], [], [], [], [], [82, 0, 0, 0, 103], [], [82, 0, 0, 0, 105], [], [0, 0, 107, 108, 109, 0, 110, 0, 0, 111, 112, 113, 114, 0, 115, 0, 116, 0, 0, 0], [], [], [], [], [], [], [], [], [], [], [0, 0, 118, 119, 120, 0, 121, 0, 0, 122, 123, 124, 125, 0, 126, 0, 127, 0, 0, 0], [], [], [], [], [], [], [], [], [], [], [0, 0, 0, 0, 129, 130, 0, 0, 131, 132, 133, 134, 135, 136, 0, 0], [], [], [], [], [], [], [], [], [0, 0, 0, 0, 138, 139, 0, 0, 140, 141, 142, 143, 144, 145, 0, 0], [], [], [], [], [], [], [], [], [147, 97, 150, 151], [0, 0, 0, 0, 148, 0, 0], [], [], [], []]
def stC (o k : Nat) : Nat := (stL.getD o []).getD k 0
theorem st_all : ∀ o, o < 152 → ∀ k, k < 21 → fk (kcC o) k = 3 → stC o k < 152 ∧ kcC (stC o k) = rt (kcC o) k := by decide +kernel
theorem fk_small {t k : Nat} (h : fk t k = 3) (h2 : t < 12) : k < 21 := by
  rcases Nat.lt_or_ge k 21 with q | q
  · exact q
  · exfalso
    have hl : ∀ t, t < 12 → (fkT.getD t []).length ≤ 21 := by decide
    have e : fk t k = 0 := by
      unfold fk
      rw [List.getD_eq_getElem?_getD, List.getElem?_eq_none (Nat.le_trans (hl t h2) q)]
      rfl
    rw [e] at h
    exact absurd h (by decide)
set_option maxRecDepth 100000 in
theorem kc_new {o : Nat} (h : 152 ≤ o) : kcC o = 21 := by
  unfold kcC
  rw [List.getD_eq_getElem?_getD, List.getElem?_eq_none (Nat.le_trans (show kcL.length ≤ 152 by decide) h)]
  rfl
theorem st_ty {o t k NN : Nat} (hNN : 152 ≤ NN) (h : o < NN) (hk : kcC o = t) (hf : fk t k = 3) (h2 : t < 12 := by decide) : stC o k < NN ∧ kcC (stC o k) = rt t k := by
  rcases Nat.lt_or_ge o 152 with q | q
  · subst hk
    have z := st_all o q k (fk_small hf h2) hf
    exact ⟨Nat.lt_of_lt_of_le z.1 hNN, z.2⟩
  · exfalso
    rw [kc_new q] at hk
    omega
def NSTR : Nat := 24
def NCON : Nat := 29
def sLen : List Nat := [8, 8, 8, 4, 3, 4, 4, 5, 4, 5, 2, 6, 5, 3, 3, 3, 5, 2, 3, 2, 3, 2, 4, 2]
def sByt : List (List Int32) := [[114, 101, 113, 117, 105, 114, 101, 100], [111, 112, 116, 105, 111, 110, 97, 108], [114, 101, 112, 101, 97, 116, 101, 100], [98, 111, 111, 108], [105, 110, 116], [108, 111, 110, 103], [116, 101, 120, 116], [103, 114, 111, 117, 112], [116, 114, 117, 101], [102, 97, 108, 115, 101], [92, 120], [115, 101, 108, 101, 99, 116], [99, 111, 117, 110, 116], [115, 117, 109], [109, 105, 110], [109, 97, 120], [119, 104, 101, 114, 101], [98, 121], [97, 110, 100], [111, 114], [110, 111, 116], [105, 115], [110, 117, 108, 108], [105, 110]]
def cOwn (i : Nat) : String := ["StripedVault$Schema", "StripedVault$Schema", "StripedVault$Schema", "StripedVault$Schema", "StripedVault$Schema", "StripedVault$Schema", "StripedVault$Schema", "StripedVault$Schema", "StripedVault$Records", "StripedVault$Records", "StripedVault$Assembler", "StripedVault$Assembler", "StripedVault$Assembler", "StripedVault$Query", "StripedVault$Query", "StripedVault$Query", "StripedVault$Query", "StripedVault$Query", "StripedVault$Query", "StripedVault$Query", "StripedVault$Query", "StripedVault$Query", "StripedVault$Query", "StripedVault$Query", "StripedVault$Query", "StripedVault$Query", "StripedVault$Query", "StripedVault$Query", "StripedVault$Query"].getD i ""
def cIdx (i : Nat) : Nat := [141, 147, 149, 155, 157, 159, 161, 163, 181, 187, 174, 143, 145, 75, 157, 159, 161, 163, 90, 100, 102, 196, 198, 200, 202, 204, 206, 208, 210].getD i 0
def cTx (i : Nat) : String := ["required", "optional", "repeated", "bool", "int", "long", "text", "group", "true", "false", "\\x", "true", "false", "select", "count", "sum", "min", "max", "where", "group", "by", "and", "or", "not", "is", "null", "in", "true", "false"].getD i ""
def cJ (i : Nat) : Nat := [0, 1, 2, 3, 4, 5, 6, 7, 8, 9, 10, 8, 9, 11, 12, 13, 14, 15, 16, 7, 17, 18, 19, 20, 21, 22, 23, 8, 9].getD i 0
def magicT : List Int32 := [83, 84, 82, 66]
def magicI (j : Nat) : Int32 := magicT.getD j 0
def crcT : List Int32 := [0, 498536548, 997073096, 651767980, 1994146192, 1802195444, 1303535960, 1342533948, (-306674912), (-267414716), (-690576408), (-882789492), (-1687895376), (-2032938284), (-1609899400), (-1111625188)]
def crcI (j : Nat) : Int32 := crcT.getD j 0
/-- what was there before the law began: the statics' rows, the String constants -/
def CK (E : Heap) (tM tC : Nat) (kK kV : Nat → Nat) (U : State) : Prop :=
  va_Z R_V "MAGIC" "[B" (.ref tM) (fun q => E.size ≤ q) U E ∧ va_T .byte tM 4 (fun j => .int (magicI j)) (fun q => E.size ≤ q) U E ∧ va_Z R_V "CRC_OF_NIBBLE" "[I" (.ref tC) (fun q => E.size ≤ q) U E ∧ va_T .int tC 16 (fun j => .int (crcI j)) (fun q => E.size ≤ q) U E ∧
  va_Z "java/lang/String" "COMPACT_STRINGS" "Z" (.int 1) (fun q => E.size ≤ q) U E ∧ va_Zq "jdk/internal/util/Preconditions" "SIOOBE_FORMATTER" "Ljava/util/function/BiFunction;" (fun q => E.size ≤ q) U E ∧ vk_S NSTR sLen sByt kK kV (fun q => E.size ≤ q) U E ∧ ∀ i, i < NCON → vk_R (cOwn i) (cIdx i) (cTx i) (kK (cJ i)) U
def CE (E : Heap) (tM tC : Nat) (kK kV : Nat → Nat) (A : Nat → Prop) (U : State) : Prop :=
  (∀ q : Nat, A q → E.size ≤ q) ∧ E.size ≤ U.heap.size ∧ (∀ q : Nat, q < E.size → U.heap[q]? = E[q]?) ∧ CK E tM tC kK kV U
theorem CK.same {E : Heap} {tM tC : Nat} {kK kV : Nat → Nat} {u U : State} (h : u.vm = U.vm) (z : CK E tM tC kK kV u) : CK E tM tC kK kV U := by
  have hv : u.vm.Alike U.vm := by rw [h]; exact Vm.Alike.refl U.vm
  obtain ⟨z1, z2, z3, z4, z5, z6, z7, z8⟩ := z
  exact ⟨z1.moved hv, z2.moved hv, z3.moved hv, z4.moved hv, z5.moved hv, z6.moved hv, z7.moved hv, fun i hi => vk_R.same h.symm (z8 i hi)⟩
theorem CK.warm {E : Heap} {tM tC : Nat} {kK kV : Nat → Nat} {s U : State} (h : s.WarmedH U.vm) (z : CK E tM tC kK kV s) : CK E tM tC kK kV U := by
  have hv : s.vm.Alike U.vm := h.alike
  obtain ⟨z1, z2, z3, z4, z5, z6, z7, z8⟩ := z
  exact ⟨z1.moved hv, z2.moved hv, z3.moved hv, z4.moved hv, z5.moved hv, z6.moved hv, z7.moved hv, fun i hi => vk_R.warm h (z8 i hi)⟩
section CEuse
variable {E : Heap} {tM tC : Nat} {kK kV : Nat → Nat} {A B : Nat → Prop} {s : State}
theorem CE.up (h : CE E tM tC kK kV A s) : ∀ q : Nat, A q → E.size ≤ q := h.1
theorem CE.keep (h : CE E tM tC kK kV A s) : ∀ a : Nat, a < E.size → ¬ A a → s.heap[a]? = E[a]? := fun a ha _ => h.2.2.1 a ha
theorem CE.zM (h : CE E tM tC kK kV A s) : va_Z R_V "MAGIC" "[B" (.ref tM) A s s.heap := (h.2.2.2.1.narrow h.up).kept h.keep
theorem CE.rM (h : CE E tM tC kK kV A s) : va_T .byte tM 4 (fun j => .int (magicI j)) A s s.heap := (h.2.2.2.2.1.narrow h.up).kept h.keep
theorem CE.zC (h : CE E tM tC kK kV A s) : va_Z R_V "CRC_OF_NIBBLE" "[I" (.ref tC) A s s.heap := (h.2.2.2.2.2.1.narrow h.up).kept h.keep
theorem CE.rC (h : CE E tM tC kK kV A s) : va_T .int tC 16 (fun j => .int (crcI j)) A s s.heap := (h.2.2.2.2.2.2.1.narrow h.up).kept h.keep
theorem CE.zS (h : CE E tM tC kK kV A s) : va_Z "java/lang/String" "COMPACT_STRINGS" "Z" (.int 1) A s s.heap := (h.2.2.2.2.2.2.2.1.narrow h.up).kept h.keep
theorem CE.zF (h : CE E tM tC kK kV A s) : va_Zq "jdk/internal/util/Preconditions" "SIOOBE_FORMATTER" "Ljava/util/function/BiFunction;" A s s.heap := (h.2.2.2.2.2.2.2.2.1.narrow h.up).kept h.keep
theorem CE.sS (h : CE E tM tC kK kV A s) : vk_S NSTR sLen sByt kK kV A s s.heap := (h.2.2.2.2.2.2.2.2.2.1.narrow h.up).kept h.keep
theorem CE.str (h : CE E tM tC kK kV A s) (i : Nat) (hi : i < NCON) : vk_R (cOwn i) (cIdx i) (cTx i) (kK (cJ i)) s := h.2.2.2.2.2.2.2.2.2.2 i hi
theorem CE.at {H : Heap} {locs : List Loc} {U : State} (h : CE E tM tC kK kV A s) (hS : va_S A s.heap H locs) (hF : ∀ q : Nat, B q → A q) (hU : U.heap = H) (hM : s.WarmedH U.vm) : CE E tM tC kK kV B U := by
  refine ⟨fun q z => h.1 q (hF q z), by rw [hU]; exact Nat.le_trans h.2.1 hS.1, fun q hq => ?_, h.2.2.2.warm hM⟩
  rw [hU, hS.2.1 q (Nat.lt_of_lt_of_le hq h.2.1) (fun z => absurd (h.1 q z) (Nat.not_le.mpr hq))]
  exact h.2.2.1 q hq
end CEuse
/-- a contract's start over the class's world -/
def PV (dC : Nat → ClassId) (dI : Nat → Nat → Nat) (cI cB cJ cZ : ClassId) (ad : Nat → Nat) (st : Nat → Nat → Nat) (kc : Nat → Nat) (NN : Nat) (E : Heap) (tM tC : Nat) (kK kV : Nat → Nat) (sz : Nat) (x : St) (U : State) : Prop :=
  PW dC dI cI cB cJ cZ ad st kc NN sz x U ∧ CE E tM tC kK kV (va_A (pic ad st kc NN cI cB cJ cZ x) sz) U
theorem PV.blind {dC : Nat → ClassId} {dI : Nat → Nat → Nat} {cI cB cJ cZ : ClassId} {ad : Nat → Nat} {st : Nat → Nat → Nat} {kc : Nat → Nat} {NN : Nat} {E : Heap} {tM tC : Nat} {kK kV : Nat → Nat} {sz : Nat} {x : St} {av : List Value} : FrameBlind (va_Pc av (PV dC dI cI cB cJ cZ ad st kc NN E tM tC kK kV sz x)) := fun a U g mk q => by
  obtain ⟨q0, ⟨q1, qW, qK, qN⟩, q2, q3, q4, q5⟩ := q
  exact ⟨q0, ⟨q1, qW, va_K.moved (u := U) (U := U.calling g mk a) (Vm.Alike.refl U.vm) qK, NW.same (u := U) (U := U.calling g mk a) rfl qN⟩, q2, q3, q4, CK.same (u := U) (U := U.calling g mk a) rfl q5⟩
theorem PV.at {dC : Nat → ClassId} {dI : Nat → Nat → Nat} {cI cB cJ cZ : ClassId} {ad : Nat → Nat} {st : Nat → Nat → Nat} {kc : Nat → Nat} {NN : Nat} {E : Heap} {tM tC : Nat} {kK kV : Nat → Nat} {A : Nat → Prop} {s : State} {H : Heap} {locs : List Loc} {x : St} (av : List Value) (hW : Wd dC dI cI cB cJ cZ ad st kc NN A x H) (hK : va_K (dC, dI) CL (TY cI cB cJ cZ) s) (hN : NW s) (hE : CE E tM tC kK kV A s) (hS : va_S A s.heap H locs) (hF : ∀ q : Nat, va_A (pic ad st kc NN cI cB cJ cZ x) H.size q → A q) :
    ∀ U : State, U.heap = H → s.WarmedH U.vm → va_Pc av (PV dC dI cI cB cJ cZ ad st kc NN E tM tC kK kV H.size x) av.toArray U := fun U hU hM =>
  ⟨rfl, (PW.at av hW hK hN U hU hM).2, hE.at hS hF hU hM⟩
