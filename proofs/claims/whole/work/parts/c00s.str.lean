theorem w_14_88 : (Jvm.Cond.fieldLink "java/lang/String" (9 : Nat) "java/lang/String" "value" "[B") ∈ TG := tw_14 88 (by decide +kernel) (by decide +kernel)
theorem w_14_89 : (Jvm.Cond.fieldLink "java/lang/String" (15 : Nat) "java/lang/String" "coder" "B") ∈ TG := tw_14 89 (by decide +kernel) (by decide +kernel)
theorem w_1_17 : (Jvm.Cond.initialized "java/lang/String") ∈ TG := tw_1 17 (by decide +kernel) (by decide +kernel)
theorem w_1_18 : (Jvm.Cond.initialized "java/lang/StringLatin1") ∈ TG := tw_1 18 (by decide +kernel) (by decide +kernel)
theorem w_1_19 : (Jvm.Cond.initialized "jdk/internal/util/Preconditions") ∈ TG := tw_1 19 (by decide +kernel) (by decide +kernel)
theorem w_4_160 : (Jvm.Cond.methodLink "java/lang/String" (335 : Nat) ({ cls := "java/lang/String", name := "coder", desc := "()B" } : Jvm.MethodName)) ∈ TG := tw_4 160 (by decide +kernel) (by decide +kernel)
theorem w_4_161 : (Jvm.Cond.instanceMethod ({ cls := "java/lang/String", name := "coder", desc := "()B" } : Jvm.MethodName)) ∈ TG := tw_4 161 (by decide +kernel) (by decide +kernel)
theorem w_4_162 : (Jvm.Cond.selects "java/lang/String" ({ cls := "java/lang/String", name := "coder", desc := "()B" } : Jvm.MethodName) ({ cls := "java/lang/String", name := "coder", desc := "()B" } : Jvm.MethodName)) ∈ TG := tw_4 162 (by decide +kernel) (by decide +kernel)
theorem w_4_163 : (Jvm.Cond.code ({ cls := "java/lang/String", name := "coder", desc := "()B" } : Jvm.MethodName) prog_18_method_152_code (1 : Nat) (Option.some Jvm.ClassFile.FieldType.byte)) ∈ TG := tw_4 163 (by decide +kernel) (by decide +kernel)
theorem w_4_164 : (Jvm.Cond.fieldLink "java/lang/String" (38 : Nat) "java/lang/String" "COMPACT_STRINGS" "Z") ∈ TG := tw_4 164 (by decide +kernel) (by decide +kernel)
theorem w_4_170 : (Jvm.Cond.methodLink "java/lang/String" (492 : Nat) ({ cls := "java/lang/String", name := "isLatin1", desc := "()Z" } : Jvm.MethodName)) ∈ TG := tw_4 170 (by decide +kernel) (by decide +kernel)
theorem w_4_171 : (Jvm.Cond.instanceMethod ({ cls := "java/lang/String", name := "isLatin1", desc := "()Z" } : Jvm.MethodName)) ∈ TG := tw_4 171 (by decide +kernel) (by decide +kernel)
theorem w_4_172 : (Jvm.Cond.selects "java/lang/String" ({ cls := "java/lang/String", name := "isLatin1", desc := "()Z" } : Jvm.MethodName) ({ cls := "java/lang/String", name := "isLatin1", desc := "()Z" } : Jvm.MethodName)) ∈ TG := tw_4 172 (by decide +kernel) (by decide +kernel)
theorem w_4_173 : (Jvm.Cond.code ({ cls := "java/lang/String", name := "isLatin1", desc := "()Z" } : Jvm.MethodName) prog_18_method_154_code (1 : Nat) (Option.some Jvm.ClassFile.FieldType.boolean)) ∈ TG := tw_4 173 (by decide +kernel) (by decide +kernel)
theorem w_4_174 : (Jvm.Cond.methodLink "java/lang/String" (495 : Nat) ({ cls := "java/lang/StringLatin1", name := "charAt", desc := "([BI)C" } : Jvm.MethodName)) ∈ TG := tw_4 174 (by decide +kernel) (by decide +kernel)
theorem w_4_175 : (Jvm.Cond.static ({ cls := "java/lang/StringLatin1", name := "charAt", desc := "([BI)C" } : Jvm.MethodName)) ∈ TG := tw_4 175 (by decide +kernel) (by decide +kernel)
theorem w_4_176 : (Jvm.Cond.code ({ cls := "java/lang/StringLatin1", name := "charAt", desc := "([BI)C" } : Jvm.MethodName) prog_19_method_2_code (2 : Nat) (Option.some Jvm.ClassFile.FieldType.char)) ∈ TG := tw_4 176 (by decide +kernel) (by decide +kernel)
theorem w_4_177 : (Jvm.Cond.methodLink "java/lang/StringLatin1" (9 : Nat) ({ cls := "java/lang/String", name := "checkIndex", desc := "(II)V" } : Jvm.MethodName)) ∈ TG := tw_4 177 (by decide +kernel) (by decide +kernel)
theorem w_4_178 : (Jvm.Cond.static ({ cls := "java/lang/String", name := "checkIndex", desc := "(II)V" } : Jvm.MethodName)) ∈ TG := tw_4 178 (by decide +kernel) (by decide +kernel)
theorem w_4_179 : (Jvm.Cond.code ({ cls := "java/lang/String", name := "checkIndex", desc := "(II)V" } : Jvm.MethodName) prog_18_method_155_code (2 : Nat) (Option.none : Option Jvm.ClassFile.FieldType)) ∈ TG := tw_4 179 (by decide +kernel) (by decide +kernel)
theorem w_4_180 : (Jvm.Cond.fieldLink "java/lang/String" (1053 : Nat) "jdk/internal/util/Preconditions" "SIOOBE_FORMATTER" "Ljava/util/function/BiFunction;") ∈ TG := tw_4 180 (by decide +kernel) (by decide +kernel)
theorem w_4_182 : (Jvm.Cond.methodLink "java/lang/String" (1059 : Nat) ({ cls := "jdk/internal/util/Preconditions", name := "checkIndex", desc := "(IILjava/util/function/BiFunction;)I" } : Jvm.MethodName)) ∈ TG := tw_4 182 (by decide +kernel) (by decide +kernel)
theorem w_4_183 : (Jvm.Cond.static ({ cls := "jdk/internal/util/Preconditions", name := "checkIndex", desc := "(IILjava/util/function/BiFunction;)I" } : Jvm.MethodName)) ∈ TG := tw_4 183 (by decide +kernel) (by decide +kernel)
theorem w_4_184 : (Jvm.Cond.code ({ cls := "jdk/internal/util/Preconditions", name := "checkIndex", desc := "(IILjava/util/function/BiFunction;)I" } : Jvm.MethodName) prog_23_method_11_code (3 : Nat) (Option.some Jvm.ClassFile.FieldType.int)) ∈ TG := tw_4 184 (by decide +kernel) (by decide +kernel)
theorem d_JStr_coder_0 : decode b_JStr_coder 0 = .ok (.getstatic 38, 3) := by decide +kernel
theorem d_JStr_coder_3 : decode b_JStr_coder 3 = .ok (.ifCond .eq 10, 3) := by decide +kernel
theorem d_JStr_coder_6 : decode b_JStr_coder 6 = .ok (.aload_n 0, 1) := by decide +kernel
theorem d_JStr_coder_7 : decode b_JStr_coder 7 = .ok (.getfield 15, 3) := by decide +kernel
theorem d_JStr_coder_10 : decode b_JStr_coder 10 = .ok (.goto 4, 3) := by decide +kernel
theorem d_JStr_coder_14 : decode b_JStr_coder 14 = .ok (.ireturn, 1) := by decide +kernel
theorem d_JStr_isLatin1_0 : decode b_JStr_isLatin1 0 = .ok (.getstatic 38, 3) := by decide +kernel
theorem d_JStr_isLatin1_3 : decode b_JStr_isLatin1 3 = .ok (.ifCond .eq 14, 3) := by decide +kernel
theorem d_JStr_isLatin1_6 : decode b_JStr_isLatin1 6 = .ok (.aload_n 0, 1) := by decide +kernel
theorem d_JStr_isLatin1_7 : decode b_JStr_isLatin1 7 = .ok (.getfield 15, 3) := by decide +kernel
theorem d_JStr_isLatin1_10 : decode b_JStr_isLatin1 10 = .ok (.ifCond .ne 7, 3) := by decide +kernel
theorem d_JStr_isLatin1_13 : decode b_JStr_isLatin1 13 = .ok (.iconst 1, 1) := by decide +kernel
theorem d_JStr_isLatin1_14 : decode b_JStr_isLatin1 14 = .ok (.goto 4, 3) := by decide +kernel
theorem d_JStr_isLatin1_18 : decode b_JStr_isLatin1 18 = .ok (.ireturn, 1) := by decide +kernel
theorem d_JStr_length_0 : decode b_JStr_length 0 = .ok (.aload_n 0, 1) := by decide +kernel
theorem d_JStr_length_1 : decode b_JStr_length 1 = .ok (.getfield 9, 3) := by decide +kernel
theorem d_JStr_length_4 : decode b_JStr_length 4 = .ok (.arraylength, 1) := by decide +kernel
theorem d_JStr_length_5 : decode b_JStr_length 5 = .ok (.aload_n 0, 1) := by decide +kernel
theorem d_JStr_length_6 : decode b_JStr_length 6 = .ok (.invokevirtual 335, 3) := by decide +kernel
theorem d_JStr_length_9 : decode b_JStr_length 9 = .ok (.ishr, 1) := by decide +kernel
theorem d_JStr_length_10 : decode b_JStr_length 10 = .ok (.ireturn, 1) := by decide +kernel
theorem d_JPre_checkIndex_0 : decode b_JPre_checkIndex 0 = .ok (.iload_n 0, 1) := by decide +kernel
theorem d_JPre_checkIndex_1 : decode b_JPre_checkIndex 1 = .ok (.ifCond .lt 8, 3) := by decide +kernel
theorem d_JPre_checkIndex_4 : decode b_JPre_checkIndex 4 = .ok (.iload_n 0, 1) := by decide +kernel
theorem d_JPre_checkIndex_5 : decode b_JPre_checkIndex 5 = .ok (.iload_n 1, 1) := by decide +kernel
theorem d_JPre_checkIndex_6 : decode b_JPre_checkIndex 6 = .ok (.if_icmp .lt 10, 3) := by decide +kernel
theorem d_JPre_checkIndex_16 : decode b_JPre_checkIndex 16 = .ok (.iload_n 0, 1) := by decide +kernel
theorem d_JPre_checkIndex_17 : decode b_JPre_checkIndex 17 = .ok (.ireturn, 1) := by decide +kernel
theorem d_JStr_checkIndex_0 : decode b_JStr_checkIndex 0 = .ok (.iload_n 0, 1) := by decide +kernel
theorem d_JStr_checkIndex_1 : decode b_JStr_checkIndex 1 = .ok (.iload_n 1, 1) := by decide +kernel
theorem d_JStr_checkIndex_2 : decode b_JStr_checkIndex 2 = .ok (.getstatic 1053, 3) := by decide +kernel
theorem d_JStr_checkIndex_5 : decode b_JStr_checkIndex 5 = .ok (.invokestatic 1059, 3) := by decide +kernel
theorem d_JStr_checkIndex_8 : decode b_JStr_checkIndex 8 = .ok (.pop, 1) := by decide +kernel
theorem d_JStr_checkIndex_9 : decode b_JStr_checkIndex 9 = .ok (.return_, 1) := by decide +kernel
theorem d_JSL1_charAt_0 : decode b_JSL1_charAt 0 = .ok (.iload_n 1, 1) := by decide +kernel
theorem d_JSL1_charAt_1 : decode b_JSL1_charAt 1 = .ok (.aload_n 0, 1) := by decide +kernel
theorem d_JSL1_charAt_2 : decode b_JSL1_charAt 2 = .ok (.arraylength, 1) := by decide +kernel
theorem d_JSL1_charAt_3 : decode b_JSL1_charAt 3 = .ok (.invokestatic 9, 3) := by decide +kernel
theorem d_JSL1_charAt_6 : decode b_JSL1_charAt 6 = .ok (.aload_n 0, 1) := by decide +kernel
theorem d_JSL1_charAt_7 : decode b_JSL1_charAt 7 = .ok (.iload_n 1, 1) := by decide +kernel
theorem d_JSL1_charAt_8 : decode b_JSL1_charAt 8 = .ok (.baload, 1) := by decide +kernel
theorem d_JSL1_charAt_9 : decode b_JSL1_charAt 9 = .ok (.sipush 255, 3) := by decide +kernel
theorem d_JSL1_charAt_12 : decode b_JSL1_charAt 12 = .ok (.iand, 1) := by decide +kernel
theorem d_JSL1_charAt_13 : decode b_JSL1_charAt 13 = .ok (.i2c, 1) := by decide +kernel
theorem d_JSL1_charAt_14 : decode b_JSL1_charAt 14 = .ok (.ireturn, 1) := by decide +kernel
theorem d_JStr_charAt_0 : decode b_JStr_charAt 0 = .ok (.aload_n 0, 1) := by decide +kernel
theorem d_JStr_charAt_1 : decode b_JStr_charAt 1 = .ok (.invokevirtual 492, 3) := by decide +kernel
theorem d_JStr_charAt_4 : decode b_JStr_charAt 4 = .ok (.ifCond .eq 12, 3) := by decide +kernel
theorem d_JStr_charAt_7 : decode b_JStr_charAt 7 = .ok (.aload_n 0, 1) := by decide +kernel
theorem d_JStr_charAt_8 : decode b_JStr_charAt 8 = .ok (.getfield 9, 3) := by decide +kernel
theorem d_JStr_charAt_11 : decode b_JStr_charAt 11 = .ok (.iload_n 1, 1) := by decide +kernel
theorem d_JStr_charAt_12 : decode b_JStr_charAt 12 = .ok (.invokestatic 495, 3) := by decide +kernel
theorem d_JStr_charAt_15 : decode b_JStr_charAt 15 = .ok (.ireturn, 1) := by decide +kernel
/-- the char at k of the text j -/
theorem str_all : ∀ j, j < NSTR → (sLen.getD j 0 < 2 ^ 31 ∧ nI (sLen.getD j 0) >>> ((0 : Int32) &&& 31) = nI (sLen.getD j 0)) ∧ ∀ k, k < sLen.getD j 0 → (((sByt.getD j []).getD k 0 &&& 255).toUInt32 % 65536).toInt32 = (sByt.getD j []).getD k 0 := by decide +kernel
theorem sh0 (j : Nat) (hj : j < NSTR) : nI (sLen.getD j 0) >>> ((0 : Int32) &&& 31) = nI (sLen.getD j 0) := (str_all j hj).1.2
theorem str_in {j : Nat} {k : Int32} (hj : j < NSTR) (h0 : ¬ k < 0) (h1 : k < nI (sLen.getD j 0)) : vp_in k (sLen.getD j 0) := by
  rw [vp_in_iff]
  rw [Int32.lt_iff_toInt_lt, nI_toInt (str_all j hj).1.1] at h1
  rw [Int32.lt_iff_toInt_lt, Int32.toInt_zero] at h0
  omega
theorem chr_eq {j : Nat} {k : Int32} (hj : j < NSTR) (hin : vp_in k (sLen.getD j 0)) : (((sByt.getD j []).getD k.toNatClampNeg 0 &&& 255).toUInt32 % 65536).toInt32 = sChr j k :=
  (str_all j hj).2 _ (Nat.not_le.mp fun q => hin (Or.inr q))
theorem nar_all : ∀ j, j < NSTR → ∀ k, k < (sByt.getD j []).length → narrow .char (.int ((sByt.getD j []).getD k 0)) = .int ((sByt.getD j []).getD k 0) := by decide +kernel
theorem chr_nar (j : Nat) (k : Int32) : narrow .char (.int (sChr j k)) = .int (sChr j k) := by
  unfold sChr
  rcases Nat.lt_or_ge j NSTR with hj | hj
  · rcases Nat.lt_or_ge k.toNatClampNeg (sByt.getD j []).length with q | q
    · exact nar_all j hj _ q
    · rw [List.getD_eq_getElem?_getD, List.getElem?_eq_none q]; rfl
  · rw [show sByt.getD j [] = [] by rw [List.getD_eq_getElem?_getD, List.getElem?_eq_none (Nat.le_trans (show sByt.length ≤ NSTR by decide) hj)]; rfl]; rfl
theorem Wd.pure {dC : Nat → ClassId} {dI : Nat → Nat → Nat} {cI cB cJ cZ : ClassId} {ad : Nat → Nat} {st : Nat → Nat → Nat} {kc : Nat → Nat} {NN : Nat} {A : Nat → Prop} {x : St} {H H1 : Heap} (h : Wd dC dI cI cB cJ cZ ad st kc NN A x H) (hk : ∀ q : Nat, q < H.size → ¬ va_A [] H.size q → H1[q]? = H[q]?) : Wd dC dI cI cB cJ cZ ad st kc NN A x H1 :=
  ⟨h.1.kept (fun k q hq => hk q.1 (h.1 k q hq).lt (fun z => by
    have hlt := (h.1 k q hq).lt
    rcases z with ⟨a, b, z⟩ | z
    · simp at z
    · omega)), h.2.1, h.2.2⟩
section
variable (l : Launch) (dC : Nat → ClassId) (dI : Nat → Nat → Nat) (cI cB cJ cZ : ClassId)
/-- a contract's start that touches none of our cells -/
def PJ (dC : Nat → ClassId) (dI : Nat → Nat → Nat) (cI cB cJ cZ : ClassId) (E : Heap) (tM tC : Nat) (kK kV : Nat → Nat) (sz : Nat) (U : State) : Prop :=
  U.heap.size = sz ∧ va_K (dC, dI) CL (TY cI cB cJ cZ) U ∧ NW U ∧ CE E tM tC kK kV (va_A [] sz) U
theorem PJ.blind {dC : Nat → ClassId} {dI : Nat → Nat → Nat} {cI cB cJ cZ : ClassId} {E : Heap} {tM tC : Nat} {kK kV : Nat → Nat} {sz : Nat} {av : List Value} : FrameBlind (va_Pc av (PJ dC dI cI cB cJ cZ E tM tC kK kV sz)) := fun a U g mk q => by
  obtain ⟨q0, q1, qK, qN, q2, q3, q4, q5⟩ := q
  exact ⟨q0, q1, va_K.moved (u := U) (U := U.calling g mk a) (Vm.Alike.refl U.vm) qK, NW.same (u := U) (U := U.calling g mk a) rfl qN, q2, q3, q4, CK.same (u := U) (U := U.calling g mk a) rfl q5⟩
theorem nilA {sz q : Nat} (h : va_A [] sz q) : sz ≤ q := by
  rcases h with ⟨k, e, h⟩ | h
  · simp at h
  · exact h
theorem PJ.at {dC : Nat → ClassId} {dI : Nat → Nat → Nat} {cI cB cJ cZ : ClassId} {E : Heap} {tM tC : Nat} {kK kV : Nat → Nat} {A : Nat → Prop} {s : State} {H : Heap} {locs : List Loc} (av : List Value) (hK : va_K (dC, dI) CL (TY cI cB cJ cZ) s) (hN : NW s) (hE : CE E tM tC kK kV A s) (hS : va_S A s.heap H locs) (hA : ∀ q : Nat, s.heap.size ≤ q → A q) :
    ∀ U : State, U.heap = H → s.WarmedH U.vm → va_Pc av (PJ dC dI cI cB cJ cZ E tM tC kK kV H.size) av.toArray U := fun U hU hM =>
  ⟨rfl, by rw [hU], va_K.moved hM.alike hK, NW.warm hM hN, hE.at hS (fun q z => hA q (Nat.le_trans hS.1 (nilA z))) hU hM⟩
set_option maxHeartbeats 4000000 in
set_option maxRecDepth 100000 in
theorem c_JStr_coder (l : Launch) (dC : Nat → ClassId) (dI : Nat → Nat → Nat) (cI cB cJ cZ : ClassId) (E : Heap) (tM tC : Nat) (kK kV : Nat → Nat) (sz : Nat) (j : Nat) (hj : j < NSTR) : Met l y_JStr_coder (wsOf y_JStr_coder b_JStr_coder 1 (some (.byte))) ({ frames := 0, cells := 0, slots := 0, locals := 0 }) (va_Pc [.ref (kK j)] (PJ dC dI cI cB cJ cZ E tM tC kK kV sz)) (va_Qi (fun (r : Int32) (_ : Unit) => r = 0) (fun _ _ => True) (va_A [] sz)) 0 0 (va_A [] sz) := by
  refine Met.ofW (cc := b_JStr_coder) (maxL := 1) (ret := some (.byte)) (by decide) rfl ?_
  intro p e s m args below meth c s₁ B hml hv
  obtain ⟨rfl, hsz, hK, hN, hE⟩ := hv
  have hx := B.exec
  have hb := B.bytes
  have hr := B.returns
  have hts := atoms_spec B.pre
  have hT : ∀ w ∈ TG, w.before _ s = true := fun w h => hts w (List.mem_cons_of_mem _ h)
  have hown : s.vm.findClass R_JStr = some m.cls := findClass_of_methodNamed B.named
  have hlocks := B.notSynchronized
  subst hsz
  generalize hAe : va_A [] s.heap.size = A at hE ⊢
  have hA : ∀ q : Nat, s.heap.size ≤ q → A q := fun q h => by rw [← hAe]; exact Or.inr h
  have hS : va_S A s.heap s.heap [] := va_S.rf
  have hl := lv_entry ([.ref (kK j)]) (n := 1) (Nat.le_of_ble_eq_true rfl)
  rw [lg_entry_eq]
  generalize (lg_sl ([.ref (kK j)]) ++ List.replicate (1 - (lg_sl ([.ref (kK j)])).length) Slot.unset).toArray = ls at hl ⊢
  have hl : lv_has ls 1 [(0, .ref (kK j))] := hl
  refine va_gets hx hb hE.zS hS hown (hT _ w_4_164) (fun _ h => h) d_JStr_coder_0 ?_
  refine lv_if_eq (tgt := 13) hx hb d_JStr_coder_3 (by decide) (fun c1 => by first | exact absurd c1 (by decide) | exact absurd (by decide) c1) (fun c1 => ?_)
  refine lv_aload_n hx hb d_JStr_coder_6 rfl (lv_at hl 0 rfl) ?_
  refine vk_getf hx hb (hE.sS.1 j hj).2.1 hS hown (hT _ w_14_89) (fun _ h => h) d_JStr_coder_7 ?_
  refine lv_goto (tgt := 14) hx hb d_JStr_coder_10 (by decide) ?_
  exact W.zret (v := 0) hx hb hr (ty := .byte) rfl (fun t1 ht hM => ⟨⟨0, (), rfl, rfl, trivial⟩, hS.F ht⟩) hS.2.2 d_JStr_coder_14 hlocks
set_option maxHeartbeats 4000000 in
set_option maxRecDepth 100000 in
theorem c_JStr_isLatin1 (l : Launch) (dC : Nat → ClassId) (dI : Nat → Nat → Nat) (cI cB cJ cZ : ClassId) (E : Heap) (tM tC : Nat) (kK kV : Nat → Nat) (sz : Nat) (j : Nat) (hj : j < NSTR) : Met l y_JStr_isLatin1 (wsOf y_JStr_isLatin1 b_JStr_isLatin1 1 (some (.boolean))) ({ frames := 0, cells := 0, slots := 0, locals := 0 }) (va_Pc [.ref (kK j)] (PJ dC dI cI cB cJ cZ E tM tC kK kV sz)) (va_Qi (fun (r : Int32) (_ : Unit) => r = 1) (fun _ _ => True) (va_A [] sz)) 0 0 (va_A [] sz) := by
  refine Met.ofW (cc := b_JStr_isLatin1) (maxL := 1) (ret := some (.boolean)) (by decide) rfl ?_
  intro p e s m args below meth c s₁ B hml hv
  obtain ⟨rfl, hsz, hK, hN, hE⟩ := hv
  have hx := B.exec
  have hb := B.bytes
  have hr := B.returns
  have hts := atoms_spec B.pre
  have hT : ∀ w ∈ TG, w.before _ s = true := fun w h => hts w (List.mem_cons_of_mem _ h)
  have hown : s.vm.findClass R_JStr = some m.cls := findClass_of_methodNamed B.named
  have hlocks := B.notSynchronized
  subst hsz
  generalize hAe : va_A [] s.heap.size = A at hE ⊢
  have hA : ∀ q : Nat, s.heap.size ≤ q → A q := fun q h => by rw [← hAe]; exact Or.inr h
  have hS : va_S A s.heap s.heap [] := va_S.rf
  have hl := lv_entry ([.ref (kK j)]) (n := 1) (Nat.le_of_ble_eq_true rfl)
  rw [lg_entry_eq]
  generalize (lg_sl ([.ref (kK j)]) ++ List.replicate (1 - (lg_sl ([.ref (kK j)])).length) Slot.unset).toArray = ls at hl ⊢
  have hl : lv_has ls 1 [(0, .ref (kK j))] := hl
  refine va_gets hx hb hE.zS hS hown (hT _ w_4_164) (fun _ h => h) d_JStr_isLatin1_0 ?_
  refine lv_if_eq (tgt := 17) hx hb d_JStr_isLatin1_3 (by decide) (fun c1 => by first | exact absurd c1 (by decide) | exact absurd (by decide) c1) (fun c1 => ?_)
  refine lv_aload_n hx hb d_JStr_isLatin1_6 rfl (lv_at hl 0 rfl) ?_
  refine vk_getf hx hb (hE.sS.1 j hj).2.1 hS hown (hT _ w_14_89) (fun _ h => h) d_JStr_isLatin1_7 ?_
  refine lv_if_ne (tgt := 17) hx hb d_JStr_isLatin1_10 (by decide) (fun c1 => by first | exact absurd c1 (by decide) | exact absurd (by decide) c1) (fun c1 => ?_)
  refine lv_iconst (v := 1) hx hb d_JStr_isLatin1_13 (by decide) ?_
  refine lv_goto (tgt := 18) hx hb d_JStr_isLatin1_14 (by decide) ?_
  exact W.zret (v := 1) hx hb hr (ty := .boolean) rfl (fun t1 ht hM => ⟨⟨1, (), rfl, rfl, trivial⟩, hS.F ht⟩) hS.2.2 d_JStr_isLatin1_18 hlocks
set_option maxHeartbeats 4000000 in
set_option maxRecDepth 100000 in
theorem c_JStr_length (l : Launch) (dC : Nat → ClassId) (dI : Nat → Nat → Nat) (cI cB cJ cZ : ClassId) (E : Heap) (tM tC : Nat) (kK kV : Nat → Nat) (sz : Nat) (j : Nat) (hj : j < NSTR) : Met l y_JStr_length (wsOf y_JStr_length b_JStr_length 1 (some (.int))) ({ frames := 1, cells := 0, slots := 0, locals := 40 }) (va_Pc [.ref (kK j)] (PJ dC dI cI cB cJ cZ E tM tC kK kV sz)) (va_Qi (fun (r : Int32) (_ : Unit) => r = nI (sLen.getD j 0)) (fun _ _ => True) (va_A [] sz)) 0 0 (va_A [] sz) := by
  refine Met.ofW (cc := b_JStr_length) (maxL := 1) (ret := some (.int)) (by decide) rfl ?_
  intro p e s m args below meth c s₁ B hml hv
  obtain ⟨rfl, hsz, hK, hN, hE⟩ := hv
  have hx := B.exec
  have hb := B.bytes
  have hr := B.returns
  have hts := atoms_spec B.pre
  have hT : ∀ w ∈ TG, w.before _ s = true := fun w h => hts w (List.mem_cons_of_mem _ h)
  have hown : s.vm.findClass R_JStr = some m.cls := findClass_of_methodNamed B.named
  have hlocks := B.notSynchronized
  subst hsz
  generalize hAe : va_A [] s.heap.size = A at hE ⊢
  have hA : ∀ q : Nat, s.heap.size ≤ q → A q := fun q h => by rw [← hAe]; exact Or.inr h
  have hS : va_S A s.heap s.heap [] := va_S.rf
  have hl := lv_entry ([.ref (kK j)]) (n := 1) (Nat.le_of_ble_eq_true rfl)
  rw [lg_entry_eq]
  generalize (lg_sl ([.ref (kK j)]) ++ List.replicate (1 - (lg_sl ([.ref (kK j)])).length) Slot.unset).toArray = ls at hl ⊢
  have hl : lv_has ls 1 [(0, .ref (kK j))] := hl
  refine lv_aload_n hx hb d_JStr_length_0 rfl (lv_at hl 0 rfl) ?_
  refine vk_getf hx hb (hE.sS.1 j hj).2.2.1 hS hown (hT _ w_14_88) (fun _ h => h) d_JStr_length_1 ?_
  refine va_tlen hx hb (hE.sS.1 j hj).2.2.2 hS (v := nI (sLen.getD j 0)) rfl d_JStr_length_4 ?_
  refine lv_aload_n hx hb d_JStr_length_5 rfl (lv_at hl 0 rfl) ?_
  refine va_calli (va_runV (C := R_JStr) (As := []) (rest := [.int (nI (sLen.getD j 0))]) ⟨hx, hb, hml, hown, hT⟩ (c_JStr_coder l dC dI cI cB cJ cZ E tM tC kK kV s.heap.size j hj) ⟨callB_of 0 hT (gwt_in w_4_163) rfl rfl rfl (hT _ w_1_17) (hT _ w_4_160) (by decide +kernel) ⟨Nat.le_of_ble_eq_true rfl, Nat.le_of_ble_eq_true rfl⟩, hT _ w_4_161, hT _ w_4_162⟩ ⟨PJ.blind, vk_recv hE.sS hj hS, PJ.at _ hK hN hE hS hA⟩ rfl rfl hl.1 rfl (lv_room (Nat.le_of_ble_eq_true rfl)) d_JStr_length_6 ⟨Nat.le_refl 0, Nat.le_refl 0⟩) hS (fun q _ h => hA q (Nat.le_trans hS.1 (nilA h))) (fun q h => hA q (Nat.le_trans hS.1 (nilA h))) (fun r1 u t1 H locs ht hvm hw hB hz1 hk1 hS => ?_)
  subst hw
  refine lv_ishr hx hb d_JStr_length_9 ?_
  exact W.iret (v := (nI (sLen.getD j 0) >>> ((0 : Int32) &&& 31))) hx hb hr (fun t1 ht hM => ⟨⟨(nI (sLen.getD j 0) >>> ((0 : Int32) &&& 31)), (), rfl, sh0 j hj, trivial⟩, hS.F ht⟩) hS.2.2 d_JStr_length_10 hlocks
set_option maxHeartbeats 4000000 in
set_option maxRecDepth 100000 in
theorem c_JPre_checkIndex_N (l : Launch) (dC : Nat → ClassId) (dI : Nat → Nat → Nat) (cI cB cJ cZ : ClassId) (E : Heap) (tM tC : Nat) (kK kV : Nat → Nat) (sz : Nat) (k n : Int32) (h0 : ¬ k < 0) (h1 : k < n) : Met l y_JPre_checkIndex (wsOf y_JPre_checkIndex b_JPre_checkIndex 3 (some (.int))) ({ frames := 0, cells := 0, slots := 0, locals := 0 }) (va_Pc [.int k, .int n, .null] (PJ dC dI cI cB cJ cZ E tM tC kK kV sz)) (va_Qi (fun (r : Int32) (_ : Unit) => True) (fun _ _ => True) (va_A [] sz)) 0 0 (va_A [] sz) := by
  refine Met.ofW (cc := b_JPre_checkIndex) (maxL := 3) (ret := some (.int)) (by decide) rfl ?_
  intro p e s m args below meth c s₁ B hml hv
  obtain ⟨rfl, hsz, hK, hN, hE⟩ := hv
  have hx := B.exec
  have hb := B.bytes
  have hr := B.returns
  have hts := atoms_spec B.pre
  have hT : ∀ w ∈ TG, w.before _ s = true := fun w h => hts w (List.mem_cons_of_mem _ h)
  have hown : s.vm.findClass R_JPre = some m.cls := findClass_of_methodNamed B.named
  have hlocks := B.notSynchronized
  subst hsz
  generalize hAe : va_A [] s.heap.size = A at hE ⊢
  have hA : ∀ q : Nat, s.heap.size ≤ q → A q := fun q h => by rw [← hAe]; exact Or.inr h
  have hS : va_S A s.heap s.heap [] := va_S.rf
  have hl := lv_entry ([.int k, .int n, .null]) (n := 3) (Nat.le_of_ble_eq_true rfl)
  rw [lg_entry_eq]
  generalize (lg_sl ([.int k, .int n, .null]) ++ List.replicate (3 - (lg_sl ([.int k, .int n, .null])).length) Slot.unset).toArray = ls at hl ⊢
  have hl : lv_has ls 3 [(0, .int k), (1, .int n), (2, .null)] := hl
  refine lv_iload_n hx hb d_JPre_checkIndex_0 rfl (lv_at hl 0 rfl) ?_
  refine lv_if_lt (tgt := 9) hx hb d_JPre_checkIndex_1 (by decide) (fun c1 => absurd c1 h0) (fun c1 => ?_)
  refine lv_iload_n hx hb d_JPre_checkIndex_4 rfl (lv_at hl 0 rfl) ?_
  refine lv_iload_n hx hb d_JPre_checkIndex_5 rfl (lv_at hl 1 rfl) ?_
  refine lv_icmp_lt (tgt := 16) hx hb d_JPre_checkIndex_6 (by decide) (fun c1 => ?_) (fun c1 => absurd h1 c1)
  refine lv_iload_n hx hb d_JPre_checkIndex_16 rfl (lv_at hl 0 rfl) ?_
  exact W.iret (v := k) hx hb hr (fun t1 ht hM => ⟨⟨k, (), rfl, trivial, trivial⟩, hS.F ht⟩) hS.2.2 d_JPre_checkIndex_17 hlocks
set_option maxHeartbeats 4000000 in
set_option maxRecDepth 100000 in
theorem c_JPre_checkIndex_F (l : Launch) (dC : Nat → ClassId) (dI : Nat → Nat → Nat) (cI cB cJ cZ : ClassId) (E : Heap) (tM tC : Nat) (kK kV : Nat → Nat) (sz : Nat) (k n : Int32) (tF : Nat) (h0 : ¬ k < 0) (h1 : k < n) : Met l y_JPre_checkIndex (wsOf y_JPre_checkIndex b_JPre_checkIndex 3 (some (.int))) ({ frames := 0, cells := 0, slots := 0, locals := 0 }) (va_Pc [.int k, .int n, .ref tF] (PJ dC dI cI cB cJ cZ E tM tC kK kV sz)) (va_Qi (fun (r : Int32) (_ : Unit) => True) (fun _ _ => True) (va_A [] sz)) 0 0 (va_A [] sz) := by
  refine Met.ofW (cc := b_JPre_checkIndex) (maxL := 3) (ret := some (.int)) (by decide) rfl ?_
  intro p e s m args below meth c s₁ B hml hv
  obtain ⟨rfl, hsz, hK, hN, hE⟩ := hv
  have hx := B.exec
  have hb := B.bytes
  have hr := B.returns
  have hts := atoms_spec B.pre
  have hT : ∀ w ∈ TG, w.before _ s = true := fun w h => hts w (List.mem_cons_of_mem _ h)
  have hown : s.vm.findClass R_JPre = some m.cls := findClass_of_methodNamed B.named
  have hlocks := B.notSynchronized
  subst hsz
  generalize hAe : va_A [] s.heap.size = A at hE ⊢
  have hA : ∀ q : Nat, s.heap.size ≤ q → A q := fun q h => by rw [← hAe]; exact Or.inr h
  have hS : va_S A s.heap s.heap [] := va_S.rf
  have hl := lv_entry ([.int k, .int n, .ref tF]) (n := 3) (Nat.le_of_ble_eq_true rfl)
  rw [lg_entry_eq]
  generalize (lg_sl ([.int k, .int n, .ref tF]) ++ List.replicate (3 - (lg_sl ([.int k, .int n, .ref tF])).length) Slot.unset).toArray = ls at hl ⊢
  have hl : lv_has ls 3 [(0, .int k), (1, .int n), (2, .ref tF)] := hl
  refine lv_iload_n hx hb d_JPre_checkIndex_0 rfl (lv_at hl 0 rfl) ?_
  refine lv_if_lt (tgt := 9) hx hb d_JPre_checkIndex_1 (by decide) (fun c1 => absurd c1 h0) (fun c1 => ?_)
  refine lv_iload_n hx hb d_JPre_checkIndex_4 rfl (lv_at hl 0 rfl) ?_
  refine lv_iload_n hx hb d_JPre_checkIndex_5 rfl (lv_at hl 1 rfl) ?_
  refine lv_icmp_lt (tgt := 16) hx hb d_JPre_checkIndex_6 (by decide) (fun c1 => ?_) (fun c1 => absurd h1 c1)
  refine lv_iload_n hx hb d_JPre_checkIndex_16 rfl (lv_at hl 0 rfl) ?_
  exact W.iret (v := k) hx hb hr (fun t1 ht hM => ⟨⟨k, (), rfl, trivial, trivial⟩, hS.F ht⟩) hS.2.2 d_JPre_checkIndex_17 hlocks
set_option maxHeartbeats 4000000 in
set_option maxRecDepth 100000 in
theorem c_JStr_checkIndex (l : Launch) (dC : Nat → ClassId) (dI : Nat → Nat → Nat) (cI cB cJ cZ : ClassId) (E : Heap) (tM tC : Nat) (kK kV : Nat → Nat) (sz : Nat) (k n : Int32) (h0 : ¬ k < 0) (h1 : k < n) : Met l y_JStr_checkIndex (wsOf y_JStr_checkIndex b_JStr_checkIndex 2 (none)) ({ frames := 1, cells := 0, slots := 0, locals := 40 }) (va_Pc [.int k, .int n] (PJ dC dI cI cB cJ cZ E tM tC kK kV sz)) (va_Qv (fun (_ : Unit) => True) (fun _ _ => True) (va_A [] sz)) 0 0 (va_A [] sz) := by
  refine Met.ofW (cc := b_JStr_checkIndex) (maxL := 2) (ret := none) (by decide) rfl ?_
  intro p e s m args below meth c s₁ B hml hv
  obtain ⟨rfl, hsz, hK, hN, hE⟩ := hv
  have hx := B.exec
  have hb := B.bytes
  have hr := B.returns
  have hts := atoms_spec B.pre
  have hT : ∀ w ∈ TG, w.before _ s = true := fun w h => hts w (List.mem_cons_of_mem _ h)
  have hown : s.vm.findClass R_JStr = some m.cls := findClass_of_methodNamed B.named
  have hlocks := B.notSynchronized
  subst hsz
  generalize hAe : va_A [] s.heap.size = A at hE ⊢
  have hA : ∀ q : Nat, s.heap.size ≤ q → A q := fun q h => by rw [← hAe]; exact Or.inr h
  have hS : va_S A s.heap s.heap [] := va_S.rf
  have hl := lv_entry ([.int k, .int n]) (n := 2) (Nat.le_of_ble_eq_true rfl)
  rw [lg_entry_eq]
  generalize (lg_sl ([.int k, .int n]) ++ List.replicate (2 - (lg_sl ([.int k, .int n])).length) Slot.unset).toArray = ls at hl ⊢
  have hl : lv_has ls 2 [(0, .int k), (1, .int n)] := hl
  refine lv_iload_n hx hb d_JStr_checkIndex_0 rfl (lv_at hl 0 rfl) ?_
  refine lv_iload_n hx hb d_JStr_checkIndex_1 rfl (lv_at hl 1 rfl) ?_
  rcases hE.zF with hz | ⟨tF, hz⟩
  · refine va_gets hx hb hz hS hown (hT _ w_4_180) (fun _ h => h) d_JStr_checkIndex_2 ?_
    refine va_calli (va_runS (As := [.int k, .int n, .null]) (rest := []) ⟨hx, hb, hml, hown, hT⟩ (c_JPre_checkIndex_N l dC dI cI cB cJ cZ E tM tC kK kV s.heap.size k n h0 h1) ⟨callB_of 3 hT (gwt_in w_4_184) rfl rfl rfl (hT _ w_1_19) (hT _ w_4_182) (by decide +kernel) ⟨Nat.le_of_ble_eq_true rfl, Nat.le_of_ble_eq_true rfl⟩, hT _ w_4_183⟩ ⟨PJ.blind, PJ.at _ hK hN hE hS hA⟩ rfl rfl hl.1 rfl (lv_room (Nat.le_of_ble_eq_true rfl)) d_JStr_checkIndex_5 ⟨Nat.le_refl 0, Nat.le_refl 0⟩) hS (fun q _ h => hA q (Nat.le_trans hS.1 (nilA h))) (fun q h => hA q (Nat.le_trans hS.1 (nilA h))) (fun r1 u t1 H locs ht hvm hw hB hz1 hk1 hS => ?_)
    refine lv_pop hx hb d_JStr_checkIndex_8 rfl ?_
    exact W.vret hx hb hr (fun t1 ht hM => ⟨⟨(), rfl, trivial, trivial⟩, hS.F ht⟩) hS.2.2 d_JStr_checkIndex_9 hlocks
  · refine va_gets hx hb hz hS hown (hT _ w_4_180) (fun _ h => h) d_JStr_checkIndex_2 ?_
    refine va_calli (va_runS (As := [.int k, .int n, .ref tF]) (rest := []) ⟨hx, hb, hml, hown, hT⟩ (c_JPre_checkIndex_F l dC dI cI cB cJ cZ E tM tC kK kV s.heap.size k n tF h0 h1) ⟨callB_of 3 hT (gwt_in w_4_184) rfl rfl rfl (hT _ w_1_19) (hT _ w_4_182) (by decide +kernel) ⟨Nat.le_of_ble_eq_true rfl, Nat.le_of_ble_eq_true rfl⟩, hT _ w_4_183⟩ ⟨PJ.blind, PJ.at _ hK hN hE hS hA⟩ rfl rfl hl.1 rfl (lv_room (Nat.le_of_ble_eq_true rfl)) d_JStr_checkIndex_5 ⟨Nat.le_refl 0, Nat.le_refl 0⟩) hS (fun q _ h => hA q (Nat.le_trans hS.1 (nilA h))) (fun q h => hA q (Nat.le_trans hS.1 (nilA h))) (fun r1 u t1 H locs ht hvm hw hB hz1 hk1 hS => ?_)
    refine lv_pop hx hb d_JStr_checkIndex_8 rfl ?_
    exact W.vret hx hb hr (fun t1 ht hM => ⟨⟨(), rfl, trivial, trivial⟩, hS.F ht⟩) hS.2.2 d_JStr_checkIndex_9 hlocks
set_option maxHeartbeats 4000000 in
set_option maxRecDepth 100000 in
theorem c_JSL1_charAt (l : Launch) (dC : Nat → ClassId) (dI : Nat → Nat → Nat) (cI cB cJ cZ : ClassId) (E : Heap) (tM tC : Nat) (kK kV : Nat → Nat) (sz : Nat) (j : Nat) (hj : j < NSTR) (k : Int32) (h0 : ¬ k < 0) (h1 : k < nI (sLen.getD j 0)) : Met l y_JSL1_charAt (wsOf y_JSL1_charAt b_JSL1_charAt 2 (some (.char))) ({ frames := 2, cells := 0, slots := 0, locals := 80 }) (va_Pc [.ref (kV j), .int k] (PJ dC dI cI cB cJ cZ E tM tC kK kV sz)) (va_Qi (fun (r : Int32) (_ : Unit) => r = sChr j k) (fun _ _ => True) (va_A [] sz)) 0 0 (va_A [] sz) := by
  refine Met.ofW (cc := b_JSL1_charAt) (maxL := 2) (ret := some (.char)) (by decide) rfl ?_
  intro p e s m args below meth c s₁ B hml hv
  obtain ⟨rfl, hsz, hK, hN, hE⟩ := hv
  have hx := B.exec
  have hb := B.bytes
  have hr := B.returns
  have hts := atoms_spec B.pre
  have hT : ∀ w ∈ TG, w.before _ s = true := fun w h => hts w (List.mem_cons_of_mem _ h)
  have hown : s.vm.findClass R_JSL1 = some m.cls := findClass_of_methodNamed B.named
  have hlocks := B.notSynchronized
  subst hsz
  generalize hAe : va_A [] s.heap.size = A at hE ⊢
  have hA : ∀ q : Nat, s.heap.size ≤ q → A q := fun q h => by rw [← hAe]; exact Or.inr h
  have hS : va_S A s.heap s.heap [] := va_S.rf
  have hl := lv_entry ([.ref (kV j), .int k]) (n := 2) (Nat.le_of_ble_eq_true rfl)
  rw [lg_entry_eq]
  generalize (lg_sl ([.ref (kV j), .int k]) ++ List.replicate (2 - (lg_sl ([.ref (kV j), .int k])).length) Slot.unset).toArray = ls at hl ⊢
  have hl : lv_has ls 2 [(0, .ref (kV j)), (1, .int k)] := hl
  have hin : vp_in k (sLen.getD j 0) := str_in hj h0 h1
  refine lv_iload_n hx hb d_JSL1_charAt_0 rfl (lv_at hl 1 rfl) ?_
  refine lv_aload_n hx hb d_JSL1_charAt_1 rfl (lv_at hl 0 rfl) ?_
  refine va_tlen hx hb (hE.sS.1 j hj).2.2.2 hS (v := nI (sLen.getD j 0)) rfl d_JSL1_charAt_2 ?_
  refine va_callv (va_runS (As := [.int k, .int (nI (sLen.getD j 0))]) (rest := []) ⟨hx, hb, hml, hown, hT⟩ (c_JStr_checkIndex l dC dI cI cB cJ cZ E tM tC kK kV s.heap.size k (nI (sLen.getD j 0)) h0 h1) ⟨callB_of 2 hT (gwt_in w_4_179) rfl rfl rfl (hT _ w_1_17) (hT _ w_4_177) (by decide +kernel) ⟨Nat.le_of_ble_eq_true rfl, Nat.le_of_ble_eq_true rfl⟩, hT _ w_4_178⟩ ⟨PJ.blind, PJ.at _ hK hN hE hS hA⟩ rfl rfl hl.1 rfl (lv_room (Nat.le_of_ble_eq_true rfl)) d_JSL1_charAt_3 ⟨Nat.le_refl 0, Nat.le_refl 0⟩) hS (fun q _ h => hA q (Nat.le_trans hS.1 (nilA h))) (fun q h => hA q (Nat.le_trans hS.1 (nilA h))) (fun u t1 H locs ht hvm hw hB hz1 hk1 hS => ?_)
  refine lv_aload_n hx hb d_JSL1_charAt_6 rfl (lv_at hl 0 rfl) ?_
  refine lv_iload_n hx hb d_JSL1_charAt_7 rfl (lv_at hl 1 rfl) ?_
  refine va_tb hx hb (hE.sS.1 j hj).2.2.2 hS hin (v := .int ((sByt.getD j []).getD k.toNatClampNeg 0)) rfl d_JSL1_charAt_8 ?_
  refine lv_sipush (v := 255) hx hb d_JSL1_charAt_9 (by decide) ?_
  refine lv_iand hx hb d_JSL1_charAt_12 ?_
  refine lv_i2c hx hb d_JSL1_charAt_13 (chr_eq hj hin) ?_
  exact W.zret (v := sChr j k) hx hb hr (ty := .char) (chr_nar j k) (fun t1 ht hM => ⟨⟨sChr j k, (), rfl, rfl, trivial⟩, hS.F ht⟩) hS.2.2 d_JSL1_charAt_14 hlocks
set_option maxHeartbeats 4000000 in
set_option maxRecDepth 100000 in
theorem c_JStr_charAt (l : Launch) (dC : Nat → ClassId) (dI : Nat → Nat → Nat) (cI cB cJ cZ : ClassId) (E : Heap) (tM tC : Nat) (kK kV : Nat → Nat) (sz : Nat) (j : Nat) (hj : j < NSTR) (k : Int32) (h0 : ¬ k < 0) (h1 : k < nI (sLen.getD j 0)) : Met l y_JStr_charAt (wsOf y_JStr_charAt b_JStr_charAt 2 (some (.char))) ({ frames := 3, cells := 0, slots := 0, locals := 120 }) (va_Pc [.ref (kK j), .int k] (PJ dC dI cI cB cJ cZ E tM tC kK kV sz)) (va_Qi (fun (r : Int32) (_ : Unit) => r = sChr j k) (fun _ _ => True) (va_A [] sz)) 0 0 (va_A [] sz) := by
  refine Met.ofW (cc := b_JStr_charAt) (maxL := 2) (ret := some (.char)) (by decide) rfl ?_
  intro p e s m args below meth c s₁ B hml hv
  obtain ⟨rfl, hsz, hK, hN, hE⟩ := hv
  have hx := B.exec
  have hb := B.bytes
  have hr := B.returns
  have hts := atoms_spec B.pre
  have hT : ∀ w ∈ TG, w.before _ s = true := fun w h => hts w (List.mem_cons_of_mem _ h)
  have hown : s.vm.findClass R_JStr = some m.cls := findClass_of_methodNamed B.named
  have hlocks := B.notSynchronized
  subst hsz
  generalize hAe : va_A [] s.heap.size = A at hE ⊢
  have hA : ∀ q : Nat, s.heap.size ≤ q → A q := fun q h => by rw [← hAe]; exact Or.inr h
  have hS : va_S A s.heap s.heap [] := va_S.rf
  have hl := lv_entry ([.ref (kK j), .int k]) (n := 2) (Nat.le_of_ble_eq_true rfl)
  rw [lg_entry_eq]
  generalize (lg_sl ([.ref (kK j), .int k]) ++ List.replicate (2 - (lg_sl ([.ref (kK j), .int k])).length) Slot.unset).toArray = ls at hl ⊢
  have hl : lv_has ls 2 [(0, .ref (kK j)), (1, .int k)] := hl
  refine lv_aload_n hx hb d_JStr_charAt_0 rfl (lv_at hl 0 rfl) ?_
  refine va_calli (va_runV (C := R_JStr) (As := []) (rest := []) ⟨hx, hb, hml, hown, hT⟩ (c_JStr_isLatin1 l dC dI cI cB cJ cZ E tM tC kK kV s.heap.size j hj) ⟨callB_of 0 hT (gwt_in w_4_173) rfl rfl rfl (hT _ w_1_17) (hT _ w_4_170) (by decide +kernel) ⟨Nat.le_of_ble_eq_true rfl, Nat.le_of_ble_eq_true rfl⟩, hT _ w_4_171, hT _ w_4_172⟩ ⟨PJ.blind, vk_recv hE.sS hj hS, PJ.at _ hK hN hE hS hA⟩ rfl rfl hl.1 rfl (lv_room (Nat.le_of_ble_eq_true rfl)) d_JStr_charAt_1 ⟨Nat.le_refl 0, Nat.le_refl 0⟩) hS (fun q _ h => hA q (Nat.le_trans hS.1 (nilA h))) (fun q h => hA q (Nat.le_trans hS.1 (nilA h))) (fun r1 u t1 H locs ht hvm hw hB hz1 hk1 hS => ?_)
  subst hw
  refine lv_if_eq (tgt := 16) hx hb d_JStr_charAt_4 (by decide) (fun c1 => by first | exact absurd c1 (by decide) | exact absurd (by decide) c1) (fun c1 => ?_)
  refine lv_aload_n hx hb d_JStr_charAt_7 rfl (lv_at hl 0 rfl) ?_
  refine vk_getf hx hb (hE.sS.1 j hj).2.2.1 hS hown (hT _ w_14_88) (fun _ h => h) d_JStr_charAt_8 ?_
  refine lv_iload_n hx hb d_JStr_charAt_11 rfl (lv_at hl 1 rfl) ?_
  refine va_calli (va_runS (As := [.ref (kV j), .int k]) (rest := []) ⟨hx, hb, hml, hown, hT⟩ (c_JSL1_charAt l dC dI cI cB cJ cZ E tM tC kK kV H.size j hj k h0 h1) ⟨callB_of 2 hT (gwt_in w_4_176) rfl rfl rfl (hT _ w_1_18) (hT _ w_4_174) (by decide +kernel) ⟨Nat.le_of_ble_eq_true rfl, Nat.le_of_ble_eq_true rfl⟩, hT _ w_4_175⟩ ⟨PJ.blind, PJ.at _ hK hN hE hS hA⟩ rfl rfl hl.1 rfl (lv_room (Nat.le_of_ble_eq_true rfl)) d_JStr_charAt_12 ⟨Nat.le_refl 0, Nat.le_refl 0⟩) hS (fun q _ h => hA q (Nat.le_trans hS.1 (nilA h))) (fun q h => hA q (Nat.le_trans hS.1 (nilA h))) (fun r2 u t1 H locs ht hvm hw hB hz1 hk1 hS => ?_)
  subst hw
  exact W.zret (v := sChr j k) hx hb hr (ty := .char) (chr_nar j k) (fun t1 ht hM => ⟨⟨sChr j k, (), rfl, rfl, trivial⟩, hS.F ht⟩) hS.2.2 d_JStr_charAt_15 hlocks

end
