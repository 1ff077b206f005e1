theorem w_1_136 : (Jvm.Cond.fieldLink "StripedVault$Assembler" (55 : Nat) "StripedVault$Schema" "columns" "I") ∈ TG := tw_1 136 (by decide +kernel) (by decide +kernel)
theorem w_1_179 : (Jvm.Cond.fieldLink "StripedVault$Assembler" (64 : Nat) "StripedVault$Schema" "fieldOf" "[I") ∈ TG := tw_1 179 (by decide +kernel) (by decide +kernel)
theorem w_1_45 : (Jvm.Cond.fieldLink "StripedVault$Assembler" (77 : Nat) "StripedVault$Sink" "count" "I") ∈ TG := tw_1 45 (by decide +kernel) (by decide +kernel)
theorem w_1_48 : (Jvm.Cond.fieldLink "StripedVault$Assembler" (74 : Nat) "StripedVault$Sink" "over" "Z") ∈ TG := tw_1 48 (by decide +kernel) (by decide +kernel)
theorem w_2_121 : (Jvm.Cond.fieldLink "StripedVault$Assembler" (35 : Nat) "StripedVault$Vault" "ready" "Z") ∈ TG := tw_2 121 (by decide +kernel) (by decide +kernel)
theorem w_2_123 : (Jvm.Cond.fieldLink "StripedVault$Assembler" (41 : Nat) "StripedVault$Vault" "rows" "I") ∈ TG := tw_2 123 (by decide +kernel) (by decide +kernel)
theorem w_7_76 : (Jvm.Cond.methodLink "StripedVault" (193 : Nat) ({ cls := "StripedVault$Assembler", name := "assemble", desc := "(I[Z)I" } : Jvm.MethodName)) ∈ TG := tw_7 76 (by decide +kernel) (by decide +kernel)
theorem w_7_77 : (Jvm.Cond.instanceMethod ({ cls := "StripedVault$Assembler", name := "assemble", desc := "(I[Z)I" } : Jvm.MethodName)) ∈ TG := tw_7 77 (by decide +kernel) (by decide +kernel)
theorem w_7_78 : (Jvm.Cond.selects "StripedVault$Assembler" ({ cls := "StripedVault$Assembler", name := "assemble", desc := "(I[Z)I" } : Jvm.MethodName) ({ cls := "StripedVault$Assembler", name := "assemble", desc := "(I[Z)I" } : Jvm.MethodName)) ∈ TG := tw_7 78 (by decide +kernel) (by decide +kernel)
theorem w_7_79 : (Jvm.Cond.code ({ cls := "StripedVault$Assembler", name := "assemble", desc := "(I[Z)I" } : Jvm.MethodName) prog_3_method_2_code (8 : Nat) (Option.some Jvm.ClassFile.FieldType.int)) ∈ TG := tw_7 79 (by decide +kernel) (by decide +kernel)
theorem w_7_80 : (Jvm.Cond.methodLink "StripedVault$Assembler" (32 : Nat) ({ cls := "StripedVault$Sink", name := "forget", desc := "()V" } : Jvm.MethodName)) ∈ TG := tw_7 80 (by decide +kernel) (by decide +kernel)
theorem w_7_81 : (Jvm.Cond.methodLink "StripedVault$Assembler" (49 : Nat) ({ cls := "java/util/Arrays", name := "fill", desc := "([II)V" } : Jvm.MethodName)) ∈ TG := tw_7 81 (by decide +kernel) (by decide +kernel)
theorem w_7_82 : (Jvm.Cond.methodLink "StripedVault$Assembler" (60 : Nat) ({ cls := "StripedVault$Vault", name := "entryOf", desc := "(II)I" } : Jvm.MethodName)) ∈ TG := tw_7 82 (by decide +kernel) (by decide +kernel)
theorem d_Asm_assemble_148 : decode b_Asm_assemble 148 = .ok (.iinc 4 (-1), 3) := by decide +kernel
theorem d_Asm_assemble_151 : decode b_Asm_assemble 151 = .ok (.goto (-93), 3) := by decide +kernel
theorem d_Asm_assemble_111 : decode b_Asm_assemble 111 = .ok (.iload 7, 2) := by decide +kernel
theorem d_Asm_assemble_113 : decode b_Asm_assemble 113 = .ok (.bipush 16, 2) := by decide +kernel
theorem d_Asm_assemble_115 : decode b_Asm_assemble 115 = .ok (.if_icmp .gt 33, 3) := by decide +kernel
theorem d_Asm_assemble_118 : decode b_Asm_assemble 118 = .ok (.iload 6, 2) := by decide +kernel
theorem d_Asm_assemble_120 : decode b_Asm_assemble 120 = .ok (.iconst (-1), 1) := by decide +kernel
theorem d_Asm_assemble_121 : decode b_Asm_assemble 121 = .ok (.if_icmp .eq 27, 3) := by decide +kernel
theorem d_Asm_assemble_124 : decode b_Asm_assemble 124 = .ok (.aload_n 0, 1) := by decide +kernel
theorem d_Asm_assemble_125 : decode b_Asm_assemble 125 = .ok (.getfield 25, 3) := by decide +kernel
theorem d_Asm_assemble_128 : decode b_Asm_assemble 128 = .ok (.iload 6, 2) := by decide +kernel
theorem d_Asm_assemble_130 : decode b_Asm_assemble 130 = .ok (.iload 4, 2) := by decide +kernel
theorem d_Asm_assemble_132 : decode b_Asm_assemble 132 = .ok (.iastore, 1) := by decide +kernel
theorem d_Asm_assemble_133 : decode b_Asm_assemble 133 = .ok (.aload_n 3, 1) := by decide +kernel
theorem d_Asm_assemble_134 : decode b_Asm_assemble 134 = .ok (.getfield 67, 3) := by decide +kernel
theorem d_Asm_assemble_137 : decode b_Asm_assemble 137 = .ok (.iload 6, 2) := by decide +kernel
theorem d_Asm_assemble_139 : decode b_Asm_assemble 139 = .ok (.iaload, 1) := by decide +kernel
theorem d_Asm_assemble_140 : decode b_Asm_assemble 140 = .ok (.istore 6, 2) := by decide +kernel
theorem d_Asm_assemble_142 : decode b_Asm_assemble 142 = .ok (.iinc 7 1, 3) := by decide +kernel
theorem d_Asm_assemble_145 : decode b_Asm_assemble 145 = .ok (.goto (-34), 3) := by decide +kernel
theorem d_Asm_assemble_106 : decode b_Asm_assemble 106 = .ok (.istore 6, 2) := by decide +kernel
theorem d_Asm_assemble_108 : decode b_Asm_assemble 108 = .ok (.iconst 0, 1) := by decide +kernel
theorem d_Asm_assemble_109 : decode b_Asm_assemble 109 = .ok (.istore 7, 2) := by decide +kernel
theorem d_Asm_assemble_100 : decode b_Asm_assemble 100 = .ok (.iload 5, 2) := by decide +kernel
theorem d_Asm_assemble_102 : decode b_Asm_assemble 102 = .ok (.goto 4, 3) := by decide +kernel
theorem d_Asm_assemble_58 : decode b_Asm_assemble 58 = .ok (.iload 4, 2) := by decide +kernel
theorem d_Asm_assemble_60 : decode b_Asm_assemble 60 = .ok (.ifCond .lt 94, 3) := by decide +kernel
theorem d_Asm_assemble_154 : decode b_Asm_assemble 154 = .ok (.aload_n 0, 1) := by decide +kernel
theorem d_Asm_assemble_155 : decode b_Asm_assemble 155 = .ok (.iconst (-1), 1) := by decide +kernel
theorem d_Asm_assemble_156 : decode b_Asm_assemble 156 = .ok (.iconst 0, 1) := by decide +kernel
theorem d_Asm_assemble_157 : decode b_Asm_assemble 157 = .ok (.invokevirtual 70, 3) := by decide +kernel
theorem d_Asm_assemble_160 : decode b_Asm_assemble 160 = .ok (.aload_n 0, 1) := by decide +kernel
theorem d_Asm_assemble_161 : decode b_Asm_assemble 161 = .ok (.getfield 15, 3) := by decide +kernel
theorem d_Asm_assemble_164 : decode b_Asm_assemble 164 = .ok (.getfield 74, 3) := by decide +kernel
theorem d_Asm_assemble_167 : decode b_Asm_assemble 167 = .ok (.ifCond .eq 12, 3) := by decide +kernel
theorem d_Asm_assemble_179 : decode b_Asm_assemble 179 = .ok (.aload_n 0, 1) := by decide +kernel
theorem d_Asm_assemble_180 : decode b_Asm_assemble 180 = .ok (.getfield 15, 3) := by decide +kernel
theorem d_Asm_assemble_183 : decode b_Asm_assemble 183 = .ok (.getfield 77, 3) := by decide +kernel
theorem d_Asm_assemble_186 : decode b_Asm_assemble 186 = .ok (.ireturn, 1) := by decide +kernel
theorem d_Asm_assemble_170 : decode b_Asm_assemble 170 = .ok (.aload_n 0, 1) := by decide +kernel
theorem d_Asm_assemble_171 : decode b_Asm_assemble 171 = .ok (.getfield 15, 3) := by decide +kernel
theorem d_Asm_assemble_174 : decode b_Asm_assemble 174 = .ok (.invokevirtual 32, 3) := by decide +kernel
theorem d_Asm_assemble_177 : decode b_Asm_assemble 177 = .ok (.iconst (-1), 1) := by decide +kernel
theorem d_Asm_assemble_178 : decode b_Asm_assemble 178 = .ok (.ireturn, 1) := by decide +kernel
theorem d_Asm_assemble_63 : decode b_Asm_assemble 63 = .ok (.aload_n 0, 1) := by decide +kernel
theorem d_Asm_assemble_64 : decode b_Asm_assemble 64 = .ok (.getfield 21, 3) := by decide +kernel
theorem d_Asm_assemble_67 : decode b_Asm_assemble 67 = .ok (.iload 4, 2) := by decide +kernel
theorem d_Asm_assemble_69 : decode b_Asm_assemble 69 = .ok (.aload_n 0, 1) := by decide +kernel
theorem d_Asm_assemble_70 : decode b_Asm_assemble 70 = .ok (.getfield 28, 3) := by decide +kernel
theorem d_Asm_assemble_73 : decode b_Asm_assemble 73 = .ok (.iload_n 1, 1) := by decide +kernel
theorem d_Asm_assemble_74 : decode b_Asm_assemble 74 = .ok (.iload 4, 2) := by decide +kernel
theorem d_Asm_assemble_76 : decode b_Asm_assemble 76 = .ok (.invokevirtual 60, 3) := by decide +kernel
theorem d_Asm_assemble_79 : decode b_Asm_assemble 79 = .ok (.iastore, 1) := by decide +kernel
theorem d_Asm_assemble_80 : decode b_Asm_assemble 80 = .ok (.aload_n 3, 1) := by decide +kernel
theorem d_Asm_assemble_81 : decode b_Asm_assemble 81 = .ok (.getfield 64, 3) := by decide +kernel
theorem d_Asm_assemble_84 : decode b_Asm_assemble 84 = .ok (.iload 4, 2) := by decide +kernel
theorem d_Asm_assemble_86 : decode b_Asm_assemble 86 = .ok (.iaload, 1) := by decide +kernel
theorem d_Asm_assemble_87 : decode b_Asm_assemble 87 = .ok (.istore 5, 2) := by decide +kernel
theorem d_Asm_assemble_89 : decode b_Asm_assemble 89 = .ok (.aload_n 2, 1) := by decide +kernel
theorem d_Asm_assemble_90 : decode b_Asm_assemble 90 = .ok (.ifnull 10, 3) := by decide +kernel
theorem d_Asm_assemble_93 : decode b_Asm_assemble 93 = .ok (.aload_n 2, 1) := by decide +kernel
theorem d_Asm_assemble_94 : decode b_Asm_assemble 94 = .ok (.iload 5, 2) := by decide +kernel
theorem d_Asm_assemble_96 : decode b_Asm_assemble 96 = .ok (.baload, 1) := by decide +kernel
theorem d_Asm_assemble_97 : decode b_Asm_assemble 97 = .ok (.ifCond .eq 8, 3) := by decide +kernel
theorem d_Asm_assemble_105 : decode b_Asm_assemble 105 = .ok (.iconst (-1), 1) := by decide +kernel
theorem d_Asm_assemble_32 : decode b_Asm_assemble 32 = .ok (.iconst (-1), 1) := by decide +kernel
theorem d_Asm_assemble_33 : decode b_Asm_assemble 33 = .ok (.ireturn, 1) := by decide +kernel
theorem d_Asm_assemble_0 : decode b_Asm_assemble 0 = .ok (.aload_n 0, 1) := by decide +kernel
theorem d_Asm_assemble_1 : decode b_Asm_assemble 1 = .ok (.getfield 15, 3) := by decide +kernel
theorem d_Asm_assemble_4 : decode b_Asm_assemble 4 = .ok (.invokevirtual 32, 3) := by decide +kernel
theorem d_Asm_assemble_7 : decode b_Asm_assemble 7 = .ok (.aload_n 0, 1) := by decide +kernel
theorem d_Asm_assemble_8 : decode b_Asm_assemble 8 = .ok (.getfield 28, 3) := by decide +kernel
theorem d_Asm_assemble_11 : decode b_Asm_assemble 11 = .ok (.getfield 35, 3) := by decide +kernel
theorem d_Asm_assemble_14 : decode b_Asm_assemble 14 = .ok (.ifCond .eq 18, 3) := by decide +kernel
theorem d_Asm_assemble_17 : decode b_Asm_assemble 17 = .ok (.iload_n 1, 1) := by decide +kernel
theorem d_Asm_assemble_18 : decode b_Asm_assemble 18 = .ok (.ifCond .lt 14, 3) := by decide +kernel
theorem d_Asm_assemble_21 : decode b_Asm_assemble 21 = .ok (.iload_n 1, 1) := by decide +kernel
theorem d_Asm_assemble_22 : decode b_Asm_assemble 22 = .ok (.aload_n 0, 1) := by decide +kernel
theorem d_Asm_assemble_23 : decode b_Asm_assemble 23 = .ok (.getfield 28, 3) := by decide +kernel
theorem d_Asm_assemble_26 : decode b_Asm_assemble 26 = .ok (.getfield 41, 3) := by decide +kernel
theorem d_Asm_assemble_29 : decode b_Asm_assemble 29 = .ok (.if_icmp .lt 5, 3) := by decide +kernel
theorem d_Asm_assemble_34 : decode b_Asm_assemble 34 = .ok (.aload_n 0, 1) := by decide +kernel
theorem d_Asm_assemble_35 : decode b_Asm_assemble 35 = .ok (.getfield 28, 3) := by decide +kernel
theorem d_Asm_assemble_38 : decode b_Asm_assemble 38 = .ok (.getfield 45, 3) := by decide +kernel
theorem d_Asm_assemble_41 : decode b_Asm_assemble 41 = .ok (.astore_n 3, 1) := by decide +kernel
theorem d_Asm_assemble_42 : decode b_Asm_assemble 42 = .ok (.aload_n 0, 1) := by decide +kernel
theorem d_Asm_assemble_43 : decode b_Asm_assemble 43 = .ok (.getfield 25, 3) := by decide +kernel
theorem d_Asm_assemble_46 : decode b_Asm_assemble 46 = .ok (.iconst (-1), 1) := by decide +kernel
theorem d_Asm_assemble_47 : decode b_Asm_assemble 47 = .ok (.invokestatic 49, 3) := by decide +kernel
theorem d_Asm_assemble_50 : decode b_Asm_assemble 50 = .ok (.aload_n 3, 1) := by decide +kernel
theorem d_Asm_assemble_51 : decode b_Asm_assemble 51 = .ok (.getfield 55, 3) := by decide +kernel
theorem d_Asm_assemble_54 : decode b_Asm_assemble 54 = .ok (.iconst 1, 1) := by decide +kernel
theorem d_Asm_assemble_55 : decode b_Asm_assemble 55 = .ok (.isub, 1) := by decide +kernel
theorem d_Asm_assemble_56 : decode b_Asm_assemble 56 = .ok (.istore 4, 2) := by decide +kernel
theorem d_V_show_0 : decode b_V_show 0 = .ok (.aload_n 0, 1) := by decide +kernel
theorem d_V_show_1 : decode b_V_show 1 = .ok (.getfield 95, 3) := by decide +kernel
theorem d_V_show_4 : decode b_V_show 4 = .ok (.iload_n 1, 1) := by decide +kernel
theorem d_V_show_5 : decode b_V_show 5 = .ok (.aconst_null, 1) := by decide +kernel
theorem d_V_show_6 : decode b_V_show 6 = .ok (.invokevirtual 193, 3) := by decide +kernel
theorem d_V_show_9 : decode b_V_show 9 = .ok (.ireturn, 1) := by decide +kernel
section
variable (l : Launch) (dC : Nat → ClassId) (dI : Nat → Nat → Nat) (cI cB cJ cZ : ClassId)
set_option maxRecDepth 100000 in
set_option maxHeartbeats 4000000 in
set_option maxRecDepth 100000 in
theorem t_Asm_assemble_148 {p : Program} {l : Launch} {e : Env} {R : Room} {s : State} {m : MethodId} {args : Array Value} {below : List Frame} {meth : Method} {c : Code} {Q : State → Prop} {dC : Nat → ClassId} {dI : Nat → Nat → Nat} {cI cB cJ cZ : ClassId} {A : Nat → Prop} {E : Heap} {tM tC : Nat} {kK kV : Nat → Nat} {ad0 : Nat → Nat} {NN0 : Nat} {post : Int32 → St → Prop} {rec58 : Nat → Int32 → Nat → Nat → Int32 → Nat → Nat → St → Prop} (hx : p.tables.exec = Jvm.exec) (hb : c.code = b_Asm_assemble) (hml : c.maxLocals = 8) (hown : s.vm.findClass R_Asm = some m.cls) (hT : ∀ w ∈ TG, w.before args s = true) (hK : va_K (dC, dI) CL (TY cI cB cJ cZ) s) (hN : NW s) (hA : ∀ q : Nat, s.heap.size ≤ q → A q) (hRf : 207 ≤ R.frames) (hRl : 5516 ≤ R.locals) (hE : CE E tM tC kK kV A s) (hret : ∀ (r : Int32) (ad : Nat → Nat) (NN cells slots : Nat) (x : St) (H : Heap) (locs : List Loc) (pc : Nat) (ls : Array Slot), decode b_Asm_assemble pc = .ok (.ireturn, 1) → (NN0 ≤ NN ∧ ∀ o : Nat, o < NN0 → ad o = ad0 o) → cells ≤ R.cells → slots ≤ R.slots → post r x → Wd dC dI cI cB cJ cZ ad stC kcC NN A x H → va_S A s.heap H locs → W p l e R s m args below meth c H locs cells slots Q (F0 m pc ls [.int r])) (hrec58 : ∀ (ad : Nat → Nat) (NN cells slots : Nat) (o : Nat) (l1 : Int32) (l2 : Nat) (l3 : Nat) (l4 : Int32) (kb : Nat) (nb : Nat) (x : St) (H : Heap) (locs : List Loc) (ls : Array Slot), (152 ≤ NN) → (NN0 ≤ NN ∧ ∀ o : Nat, o < NN0 → ad o = ad0 o) → (cells + kb ≤ R.cells) → (slots + nb ≤ R.slots) → (o < NN ∧ kcC o = 11) → (l2 < NN ∧ kcC l2 = 23) → (l3 < NN ∧ kcC l3 = 3) → rec58 o l1 l2 l3 l4 kb nb x → Wd dC dI cI cB cJ cZ ad stC kcC NN A x H → va_S A s.heap H locs → lv_has ls 8 [(0, .ref (ad o)), (1, .int l1), (2, .ref (ad l2)), (3, .ref (ad l3)), (4, .int l4)] → W p l e R s m args below meth c H locs cells slots Q (F0 m 58 ls [])) : ∀ (ad : Nat → Nat) (NN cells slots : Nat) (o : Nat) (l1 : Int32) (l2 : Nat) (l3 : Nat) (l4 : Int32) (l5 : Int32) (l6 : Int32) (l7 : Int32) (kb : Nat) (nb : Nat) (x : St) (H : Heap) (locs : List Loc) (ls : Array Slot), (152 ≤ NN) → (NN0 ≤ NN ∧ ∀ o : Nat, o < NN0 → ad o = ad0 o) → (cells + kb ≤ R.cells) → (slots + nb ≤ R.slots) → (o < NN ∧ kcC o = 11) → (l2 < NN ∧ kcC l2 = 23) → (l3 < NN ∧ kcC l3 = 3) → j_Asm_assemble_148 post rec58 o l1 l2 l3 l4 l5 l6 l7 kb nb x → Wd dC dI cI cB cJ cZ ad stC kcC NN A x H → va_S A s.heap H locs → lv_has ls 8 [(0, .ref (ad o)), (1, .int l1), (2, .ref (ad l2)), (3, .ref (ad l3)), (4, .int l4), (5, .int l5), (6, .int l6), (7, .int l7)] → W p l e R s m args below meth c H locs cells slots Q (F0 m 148 ls []) := by
  intro ad NN cells slots o l1 l2 l3 l4 l5 l6 l7 kb nb x H locs ls hNN hag hRc hRs fo fl2 fl3 hw hW hS hl
  unfold j_Asm_assemble_148 at hw
  refine lv_iinc (v := (l4 + (-1))) (lv' := [(4, .int (l4 + (-1))), (0, .ref (ad o)), (1, .int l1), (2, .ref (ad l2)), (3, .ref (ad l3)), (5, .int l5), (6, .int l6), (7, .int l7)]) hx hb d_Asm_assemble_148 hl (k := 4) rfl rfl (by decide) rfl (fun ls hl => ?_)
  refine lv_goto (tgt := 58) hx hb d_Asm_assemble_151 (by decide) ?_
  exact hrec58 ad NN cells slots o l1 l2 l3 (l4 + (-1)) kb nb x H locs ls hNN hag hRc hRs fo fl2 fl3 hw hW hS (lv_sub hl [1, 2, 3, 4, 0] rfl)
set_option maxRecDepth 100000 in
set_option maxHeartbeats 4000000 in
set_option maxRecDepth 100000 in
theorem t_Asm_assemble_111 {p : Program} {l : Launch} {e : Env} {R : Room} {s : State} {m : MethodId} {args : Array Value} {below : List Frame} {meth : Method} {c : Code} {Q : State → Prop} {dC : Nat → ClassId} {dI : Nat → Nat → Nat} {cI cB cJ cZ : ClassId} {A : Nat → Prop} {E : Heap} {tM tC : Nat} {kK kV : Nat → Nat} {ad0 : Nat → Nat} {NN0 : Nat} {post : Int32 → St → Prop} {rec58 : Nat → Int32 → Nat → Nat → Int32 → Nat → Nat → St → Prop} {rec111 : Nat → Int32 → Nat → Nat → Int32 → Int32 → Int32 → Int32 → Nat → Nat → St → Prop} (hx : p.tables.exec = Jvm.exec) (hb : c.code = b_Asm_assemble) (hml : c.maxLocals = 8) (hown : s.vm.findClass R_Asm = some m.cls) (hT : ∀ w ∈ TG, w.before args s = true) (hK : va_K (dC, dI) CL (TY cI cB cJ cZ) s) (hN : NW s) (hA : ∀ q : Nat, s.heap.size ≤ q → A q) (hRf : 207 ≤ R.frames) (hRl : 5516 ≤ R.locals) (hE : CE E tM tC kK kV A s) (hret : ∀ (r : Int32) (ad : Nat → Nat) (NN cells slots : Nat) (x : St) (H : Heap) (locs : List Loc) (pc : Nat) (ls : Array Slot), decode b_Asm_assemble pc = .ok (.ireturn, 1) → (NN0 ≤ NN ∧ ∀ o : Nat, o < NN0 → ad o = ad0 o) → cells ≤ R.cells → slots ≤ R.slots → post r x → Wd dC dI cI cB cJ cZ ad stC kcC NN A x H → va_S A s.heap H locs → W p l e R s m args below meth c H locs cells slots Q (F0 m pc ls [.int r])) (hrec58 : ∀ (ad : Nat → Nat) (NN cells slots : Nat) (o : Nat) (l1 : Int32) (l2 : Nat) (l3 : Nat) (l4 : Int32) (kb : Nat) (nb : Nat) (x : St) (H : Heap) (locs : List Loc) (ls : Array Slot), (152 ≤ NN) → (NN0 ≤ NN ∧ ∀ o : Nat, o < NN0 → ad o = ad0 o) → (cells + kb ≤ R.cells) → (slots + nb ≤ R.slots) → (o < NN ∧ kcC o = 11) → (l2 < NN ∧ kcC l2 = 23) → (l3 < NN ∧ kcC l3 = 3) → rec58 o l1 l2 l3 l4 kb nb x → Wd dC dI cI cB cJ cZ ad stC kcC NN A x H → va_S A s.heap H locs → lv_has ls 8 [(0, .ref (ad o)), (1, .int l1), (2, .ref (ad l2)), (3, .ref (ad l3)), (4, .int l4)] → W p l e R s m args below meth c H locs cells slots Q (F0 m 58 ls [])) (hrec111 : ∀ (ad : Nat → Nat) (NN cells slots : Nat) (o : Nat) (l1 : Int32) (l2 : Nat) (l3 : Nat) (l4 : Int32) (l5 : Int32) (l6 : Int32) (l7 : Int32) (kb : Nat) (nb : Nat) (x : St) (H : Heap) (locs : List Loc) (ls : Array Slot), (152 ≤ NN) → (NN0 ≤ NN ∧ ∀ o : Nat, o < NN0 → ad o = ad0 o) → (cells + kb ≤ R.cells) → (slots + nb ≤ R.slots) → (o < NN ∧ kcC o = 11) → (l2 < NN ∧ kcC l2 = 23) → (l3 < NN ∧ kcC l3 = 3) → rec111 o l1 l2 l3 l4 l5 l6 l7 kb nb x → Wd dC dI cI cB cJ cZ ad stC kcC NN A x H → va_S A s.heap H locs → lv_has ls 8 [(0, .ref (ad o)), (1, .int l1), (2, .ref (ad l2)), (3, .ref (ad l3)), (4, .int l4), (5, .int l5), (6, .int l6), (7, .int l7)] → W p l e R s m args below meth c H locs cells slots Q (F0 m 111 ls [])) : ∀ (ad : Nat → Nat) (NN cells slots : Nat) (o : Nat) (l1 : Int32) (l2 : Nat) (l3 : Nat) (l4 : Int32) (l5 : Int32) (l6 : Int32) (l7 : Int32) (kb : Nat) (nb : Nat) (x : St) (H : Heap) (locs : List Loc) (ls : Array Slot), (152 ≤ NN) → (NN0 ≤ NN ∧ ∀ o : Nat, o < NN0 → ad o = ad0 o) → (cells + kb ≤ R.cells) → (slots + nb ≤ R.slots) → (o < NN ∧ kcC o = 11) → (l2 < NN ∧ kcC l2 = 23) → (l3 < NN ∧ kcC l3 = 3) → j_Asm_assemble_111 post rec58 rec111 o l1 l2 l3 l4 l5 l6 l7 kb nb x → Wd dC dI cI cB cJ cZ ad stC kcC NN A x H → va_S A s.heap H locs → lv_has ls 8 [(0, .ref (ad o)), (1, .int l1), (2, .ref (ad l2)), (3, .ref (ad l3)), (4, .int l4), (5, .int l5), (6, .int l6), (7, .int l7)] → W p l e R s m args below meth c H locs cells slots Q (F0 m 111 ls []) := by
  intro ad NN cells slots o l1 l2 l3 l4 l5 l6 l7 kb nb x H locs ls hNN hag hRc hRs fo fl2 fl3 hw hW hS hl
  unfold j_Asm_assemble_111 at hw
  refine lv_iload hx hb d_Asm_assemble_111 (lv_at hl 7 rfl) ?_
  refine lv_bipush (v := 16) hx hb d_Asm_assemble_113 (by decide) ?_
  refine lv_icmp_gt (tgt := 148) hx hb d_Asm_assemble_115 (by decide) (fun c1 => ?_) (fun c1 => ?_)
  · have hw := hw.1 c1
    exact t_Asm_assemble_148 hx hb hml hown hT hK hN hA hRf hRl hE hret hrec58 ad NN cells slots o l1 l2 l3 l4 l5 l6 l7 kb nb x H locs ls hNN hag hRc hRs fo fl2 fl3 hw hW hS (lv_sub hl [0, 1, 2, 3, 4, 5, 6, 7] rfl)
  · have hw := hw.2 c1
    refine lv_iload hx hb d_Asm_assemble_118 (lv_at hl 6 rfl) ?_
    refine lv_iconst (v := (-1)) hx hb d_Asm_assemble_120 (by decide) ?_
    refine lv_icmp_eq (tgt := 148) hx hb d_Asm_assemble_121 (by decide) (fun c2 => ?_) (fun c2 => ?_)
    · have hw := hw.1 c2
      exact t_Asm_assemble_148 hx hb hml hown hT hK hN hA hRf hRl hE hret hrec58 ad NN cells slots o l1 l2 l3 l4 l5 l6 l7 kb nb x H locs ls hNN hag hRc hRs fo fl2 fl3 hw hW hS (lv_sub hl [0, 1, 2, 3, 4, 5, 6, 7] rfl)
    · have hw := hw.2 c2
      refine lv_aload_n hx hb d_Asm_assemble_124 rfl (lv_at hl 0 rfl) ?_
      refine w_getf (q := (stC o 3)) (k := 3) (t := 11) (C := R_Asm) (T := F_Asm) (N := 4) hx hb hT hown hK hW fo.1 fo.2 (by decide) in_Asm rfl rfl (by decide) rfl fr_Asm_3 w_3_225 d_Asm_assemble_125 rfl ?_
      refine lv_iload hx hb d_Asm_assemble_128 (lv_at hl 6 rfl) ?_
      refine lv_iload hx hb d_Asm_assemble_130 (lv_at hl 4 rfl) ?_
      obtain ⟨hi, hw⟩ := hw
      refine w_iast (o := (stC o 3)) hx hb hK hW hS (st_ty hNN fo.1 fo.2 rfl).1 (st_ty hNN fo.1 fo.2 rfl).2 hi d_Asm_assemble_132 (fun H locs hW hS => ?_)
      obtain ⟨x3, ex3⟩ : ∃ y : St, y = setA x (stC o 3) l6 l4 := ⟨_, rfl⟩
      rw [← ex3] at hW
      have hw := hw x3 ex3
      refine lv_aload_n hx hb d_Asm_assemble_133 rfl (lv_at hl 3 rfl) ?_
      refine w_getf (q := (stC l3 4)) (k := 4) (t := 3) (C := R_Sch) (T := F_Sch) (N := 13) hx hb hT hown hK hW fl3.1 fl3.2 (by decide) in_Sch rfl rfl (by decide) rfl fr_Sch_4 w_1_154 d_Asm_assemble_134 rfl ?_
      refine lv_iload hx hb d_Asm_assemble_137 (lv_at hl 6 rfl) ?_
      obtain ⟨hi, hw⟩ := hw
      refine w_iald (o := (stC l3 4)) hx hb hK hW (st_ty hNN fl3.1 fl3.2 rfl).1 (st_ty hNN fl3.1 fl3.2 rfl).2 hi d_Asm_assemble_139 ?_
      refine lv_topi (fun v4 ev4 => ?_)
      have hw := hw v4 ev4
      refine lv_istore (lv' := [(6, .int v4), (0, .ref (ad o)), (1, .int l1), (2, .ref (ad l2)), (3, .ref (ad l3)), (4, .int l4), (5, .int l5), (7, .int l7)]) hx hb d_Asm_assemble_140 hl (by decide) rfl (fun ls hl => ?_)
      refine lv_iinc (v := (l7 + 1)) (lv' := [(7, .int (l7 + 1)), (6, .int v4), (0, .ref (ad o)), (1, .int l1), (2, .ref (ad l2)), (3, .ref (ad l3)), (4, .int l4), (5, .int l5)]) hx hb d_Asm_assemble_142 hl (k := 7) rfl rfl (by decide) rfl (fun ls hl => ?_)
      refine lv_goto (tgt := 111) hx hb d_Asm_assemble_145 (by decide) ?_
      exact hrec111 ad NN cells slots o l1 l2 l3 l4 l5 v4 (l7 + 1) kb nb x3 H locs ls hNN hag hRc hRs fo fl2 fl3 hw hW hS (lv_sub hl [2, 3, 4, 5, 6, 7, 1, 0] rfl)
set_option maxHeartbeats 4000000 in
set_option maxRecDepth 100000 in
theorem tl_Asm_assemble_111 {p : Program} {l : Launch} {e : Env} {R : Room} {s : State} {m : MethodId} {args : Array Value} {below : List Frame} {meth : Method} {c : Code} {Q : State → Prop} {dC : Nat → ClassId} {dI : Nat → Nat → Nat} {cI cB cJ cZ : ClassId} {A : Nat → Prop} {E : Heap} {tM tC : Nat} {kK kV : Nat → Nat} {ad0 : Nat → Nat} {NN0 : Nat} {post : Int32 → St → Prop} {rec58 : Nat → Int32 → Nat → Nat → Int32 → Nat → Nat → St → Prop} (hx : p.tables.exec = Jvm.exec) (hb : c.code = b_Asm_assemble) (hml : c.maxLocals = 8) (hown : s.vm.findClass R_Asm = some m.cls) (hT : ∀ w ∈ TG, w.before args s = true) (hK : va_K (dC, dI) CL (TY cI cB cJ cZ) s) (hN : NW s) (hA : ∀ q : Nat, s.heap.size ≤ q → A q) (hRf : 207 ≤ R.frames) (hRl : 5516 ≤ R.locals) (hE : CE E tM tC kK kV A s) (hret : ∀ (r : Int32) (ad : Nat → Nat) (NN cells slots : Nat) (x : St) (H : Heap) (locs : List Loc) (pc : Nat) (ls : Array Slot), decode b_Asm_assemble pc = .ok (.ireturn, 1) → (NN0 ≤ NN ∧ ∀ o : Nat, o < NN0 → ad o = ad0 o) → cells ≤ R.cells → slots ≤ R.slots → post r x → Wd dC dI cI cB cJ cZ ad stC kcC NN A x H → va_S A s.heap H locs → W p l e R s m args below meth c H locs cells slots Q (F0 m pc ls [.int r])) (hrec58 : ∀ (ad : Nat → Nat) (NN cells slots : Nat) (o : Nat) (l1 : Int32) (l2 : Nat) (l3 : Nat) (l4 : Int32) (kb : Nat) (nb : Nat) (x : St) (H : Heap) (locs : List Loc) (ls : Array Slot), (152 ≤ NN) → (NN0 ≤ NN ∧ ∀ o : Nat, o < NN0 → ad o = ad0 o) → (cells + kb ≤ R.cells) → (slots + nb ≤ R.slots) → (o < NN ∧ kcC o = 11) → (l2 < NN ∧ kcC l2 = 23) → (l3 < NN ∧ kcC l3 = 3) → rec58 o l1 l2 l3 l4 kb nb x → Wd dC dI cI cB cJ cZ ad stC kcC NN A x H → va_S A s.heap H locs → lv_has ls 8 [(0, .ref (ad o)), (1, .int l1), (2, .ref (ad l2)), (3, .ref (ad l3)), (4, .int l4)] → W p l e R s m args below meth c H locs cells slots Q (F0 m 58 ls [])) : ∀ n : Nat, ∀ (ad : Nat → Nat) (NN cells slots : Nat) (o : Nat) (l1 : Int32) (l2 : Nat) (l3 : Nat) (l4 : Int32) (l5 : Int32) (l6 : Int32) (l7 : Int32) (kb : Nat) (nb : Nat) (x : St) (H : Heap) (locs : List Loc) (ls : Array Slot), (152 ≤ NN) → (NN0 ≤ NN ∧ ∀ o : Nat, o < NN0 → ad o = ad0 o) → (cells + kb ≤ R.cells) → (slots + nb ≤ R.slots) → (o < NN ∧ kcC o = 11) → (l2 < NN ∧ kcC l2 = 23) → (l3 < NN ∧ kcC l3 = 3) → wl_Asm_assemble_111 post rec58 n o l1 l2 l3 l4 l5 l6 l7 kb nb x → Wd dC dI cI cB cJ cZ ad stC kcC NN A x H → va_S A s.heap H locs → lv_has ls 8 [(0, .ref (ad o)), (1, .int l1), (2, .ref (ad l2)), (3, .ref (ad l3)), (4, .int l4), (5, .int l5), (6, .int l6), (7, .int l7)] → W p l e R s m args below meth c H locs cells slots Q (F0 m 111 ls []) := by
  intro n
  induction n with
  | zero => intro ad NN cells slots o l1 l2 l3 l4 l5 l6 l7 kb nb x H locs ls hNN hag hRc hRs fo fl2 fl3 hw; exact hw.elim
  | succ n ih => intro ad NN cells slots o l1 l2 l3 l4 l5 l6 l7 kb nb x H locs ls hNN hag hRc hRs fo fl2 fl3 hw hW hS hl; exact t_Asm_assemble_111 hx hb hml hown hT hK hN hA hRf hRl hE hret hrec58 ih ad NN cells slots o l1 l2 l3 l4 l5 l6 l7 kb nb x H locs ls hNN hag hRc hRs fo fl2 fl3 hw hW hS hl
set_option maxRecDepth 100000 in
set_option maxHeartbeats 4000000 in
set_option maxRecDepth 100000 in
theorem t_Asm_assemble_106 {p : Program} {l : Launch} {e : Env} {R : Room} {s : State} {m : MethodId} {args : Array Value} {below : List Frame} {meth : Method} {c : Code} {Q : State → Prop} {dC : Nat → ClassId} {dI : Nat → Nat → Nat} {cI cB cJ cZ : ClassId} {A : Nat → Prop} {E : Heap} {tM tC : Nat} {kK kV : Nat → Nat} {ad0 : Nat → Nat} {NN0 : Nat} {post : Int32 → St → Prop} {rec58 : Nat → Int32 → Nat → Nat → Int32 → Nat → Nat → St → Prop} (hx : p.tables.exec = Jvm.exec) (hb : c.code = b_Asm_assemble) (hml : c.maxLocals = 8) (hown : s.vm.findClass R_Asm = some m.cls) (hT : ∀ w ∈ TG, w.before args s = true) (hK : va_K (dC, dI) CL (TY cI cB cJ cZ) s) (hN : NW s) (hA : ∀ q : Nat, s.heap.size ≤ q → A q) (hRf : 207 ≤ R.frames) (hRl : 5516 ≤ R.locals) (hE : CE E tM tC kK kV A s) (hret : ∀ (r : Int32) (ad : Nat → Nat) (NN cells slots : Nat) (x : St) (H : Heap) (locs : List Loc) (pc : Nat) (ls : Array Slot), decode b_Asm_assemble pc = .ok (.ireturn, 1) → (NN0 ≤ NN ∧ ∀ o : Nat, o < NN0 → ad o = ad0 o) → cells ≤ R.cells → slots ≤ R.slots → post r x → Wd dC dI cI cB cJ cZ ad stC kcC NN A x H → va_S A s.heap H locs → W p l e R s m args below meth c H locs cells slots Q (F0 m pc ls [.int r])) (hrec58 : ∀ (ad : Nat → Nat) (NN cells slots : Nat) (o : Nat) (l1 : Int32) (l2 : Nat) (l3 : Nat) (l4 : Int32) (kb : Nat) (nb : Nat) (x : St) (H : Heap) (locs : List Loc) (ls : Array Slot), (152 ≤ NN) → (NN0 ≤ NN ∧ ∀ o : Nat, o < NN0 → ad o = ad0 o) → (cells + kb ≤ R.cells) → (slots + nb ≤ R.slots) → (o < NN ∧ kcC o = 11) → (l2 < NN ∧ kcC l2 = 23) → (l3 < NN ∧ kcC l3 = 3) → rec58 o l1 l2 l3 l4 kb nb x → Wd dC dI cI cB cJ cZ ad stC kcC NN A x H → va_S A s.heap H locs → lv_has ls 8 [(0, .ref (ad o)), (1, .int l1), (2, .ref (ad l2)), (3, .ref (ad l3)), (4, .int l4)] → W p l e R s m args below meth c H locs cells slots Q (F0 m 58 ls [])) : ∀ (ad : Nat → Nat) (NN cells slots : Nat) (o : Nat) (l1 : Int32) (l2 : Nat) (l3 : Nat) (l4 : Int32) (l5 : Int32) (s0 : Int32) (kb : Nat) (nb : Nat) (x : St) (H : Heap) (locs : List Loc) (ls : Array Slot), (152 ≤ NN) → (NN0 ≤ NN ∧ ∀ o : Nat, o < NN0 → ad o = ad0 o) → (cells + kb ≤ R.cells) → (slots + nb ≤ R.slots) → (o < NN ∧ kcC o = 11) → (l2 < NN ∧ kcC l2 = 23) → (l3 < NN ∧ kcC l3 = 3) → j_Asm_assemble_106 post rec58 o l1 l2 l3 l4 l5 s0 kb nb x → Wd dC dI cI cB cJ cZ ad stC kcC NN A x H → va_S A s.heap H locs → lv_has ls 8 [(0, .ref (ad o)), (1, .int l1), (2, .ref (ad l2)), (3, .ref (ad l3)), (4, .int l4), (5, .int l5)] → W p l e R s m args below meth c H locs cells slots Q (F0 m 106 ls [.int s0]) := by
  intro ad NN cells slots o l1 l2 l3 l4 l5 s0 kb nb x H locs ls hNN hag hRc hRs fo fl2 fl3 hw hW hS hl
  unfold j_Asm_assemble_106 at hw
  refine lv_istore (lv' := [(6, .int s0), (0, .ref (ad o)), (1, .int l1), (2, .ref (ad l2)), (3, .ref (ad l3)), (4, .int l4), (5, .int l5)]) hx hb d_Asm_assemble_106 hl (by decide) rfl (fun ls hl => ?_)
  refine lv_iconst (v := 0) hx hb d_Asm_assemble_108 (by decide) ?_
  refine lv_istore (lv' := [(7, .int 0), (6, .int s0), (0, .ref (ad o)), (1, .int l1), (2, .ref (ad l2)), (3, .ref (ad l3)), (4, .int l4), (5, .int l5)]) hx hb d_Asm_assemble_109 hl (by decide) rfl (fun ls hl => ?_)
  obtain ⟨n, hw⟩ := hw
  exact tl_Asm_assemble_111 hx hb hml hown hT hK hN hA hRf hRl hE hret hrec58 n ad NN cells slots o l1 l2 l3 l4 l5 s0 0 kb nb x H locs ls hNN hag hRc hRs fo fl2 fl3 hw hW hS (lv_sub hl [2, 3, 4, 5, 6, 7, 1, 0] rfl)
set_option maxRecDepth 100000 in
set_option maxHeartbeats 4000000 in
set_option maxRecDepth 100000 in
theorem t_Asm_assemble_100 {p : Program} {l : Launch} {e : Env} {R : Room} {s : State} {m : MethodId} {args : Array Value} {below : List Frame} {meth : Method} {c : Code} {Q : State → Prop} {dC : Nat → ClassId} {dI : Nat → Nat → Nat} {cI cB cJ cZ : ClassId} {A : Nat → Prop} {E : Heap} {tM tC : Nat} {kK kV : Nat → Nat} {ad0 : Nat → Nat} {NN0 : Nat} {post : Int32 → St → Prop} {rec58 : Nat → Int32 → Nat → Nat → Int32 → Nat → Nat → St → Prop} (hx : p.tables.exec = Jvm.exec) (hb : c.code = b_Asm_assemble) (hml : c.maxLocals = 8) (hown : s.vm.findClass R_Asm = some m.cls) (hT : ∀ w ∈ TG, w.before args s = true) (hK : va_K (dC, dI) CL (TY cI cB cJ cZ) s) (hN : NW s) (hA : ∀ q : Nat, s.heap.size ≤ q → A q) (hRf : 207 ≤ R.frames) (hRl : 5516 ≤ R.locals) (hE : CE E tM tC kK kV A s) (hret : ∀ (r : Int32) (ad : Nat → Nat) (NN cells slots : Nat) (x : St) (H : Heap) (locs : List Loc) (pc : Nat) (ls : Array Slot), decode b_Asm_assemble pc = .ok (.ireturn, 1) → (NN0 ≤ NN ∧ ∀ o : Nat, o < NN0 → ad o = ad0 o) → cells ≤ R.cells → slots ≤ R.slots → post r x → Wd dC dI cI cB cJ cZ ad stC kcC NN A x H → va_S A s.heap H locs → W p l e R s m args below meth c H locs cells slots Q (F0 m pc ls [.int r])) (hrec58 : ∀ (ad : Nat → Nat) (NN cells slots : Nat) (o : Nat) (l1 : Int32) (l2 : Nat) (l3 : Nat) (l4 : Int32) (kb : Nat) (nb : Nat) (x : St) (H : Heap) (locs : List Loc) (ls : Array Slot), (152 ≤ NN) → (NN0 ≤ NN ∧ ∀ o : Nat, o < NN0 → ad o = ad0 o) → (cells + kb ≤ R.cells) → (slots + nb ≤ R.slots) → (o < NN ∧ kcC o = 11) → (l2 < NN ∧ kcC l2 = 23) → (l3 < NN ∧ kcC l3 = 3) → rec58 o l1 l2 l3 l4 kb nb x → Wd dC dI cI cB cJ cZ ad stC kcC NN A x H → va_S A s.heap H locs → lv_has ls 8 [(0, .ref (ad o)), (1, .int l1), (2, .ref (ad l2)), (3, .ref (ad l3)), (4, .int l4)] → W p l e R s m args below meth c H locs cells slots Q (F0 m 58 ls [])) : ∀ (ad : Nat → Nat) (NN cells slots : Nat) (o : Nat) (l1 : Int32) (l2 : Nat) (l3 : Nat) (l4 : Int32) (l5 : Int32) (kb : Nat) (nb : Nat) (x : St) (H : Heap) (locs : List Loc) (ls : Array Slot), (152 ≤ NN) → (NN0 ≤ NN ∧ ∀ o : Nat, o < NN0 → ad o = ad0 o) → (cells + kb ≤ R.cells) → (slots + nb ≤ R.slots) → (o < NN ∧ kcC o = 11) → (l2 < NN ∧ kcC l2 = 23) → (l3 < NN ∧ kcC l3 = 3) → j_Asm_assemble_100 post rec58 o l1 l2 l3 l4 l5 kb nb x → Wd dC dI cI cB cJ cZ ad stC kcC NN A x H → va_S A s.heap H locs → lv_has ls 8 [(0, .ref (ad o)), (1, .int l1), (2, .ref (ad l2)), (3, .ref (ad l3)), (4, .int l4), (5, .int l5)] → W p l e R s m args below meth c H locs cells slots Q (F0 m 100 ls []) := by
  intro ad NN cells slots o l1 l2 l3 l4 l5 kb nb x H locs ls hNN hag hRc hRs fo fl2 fl3 hw hW hS hl
  unfold j_Asm_assemble_100 at hw
  refine lv_iload hx hb d_Asm_assemble_100 (lv_at hl 5 rfl) ?_
  refine lv_goto (tgt := 106) hx hb d_Asm_assemble_102 (by decide) ?_
  exact t_Asm_assemble_106 hx hb hml hown hT hK hN hA hRf hRl hE hret hrec58 ad NN cells slots o l1 l2 l3 l4 l5 l5 kb nb x H locs ls hNN hag hRc hRs fo fl2 fl3 hw hW hS (lv_sub hl [0, 1, 2, 3, 4, 5] rfl)
set_option maxRecDepth 100000 in
set_option maxHeartbeats 4000000 in
set_option maxRecDepth 100000 in
theorem t_Asm_assemble_58 {p : Program} {l : Launch} {e : Env} {R : Room} {s : State} {m : MethodId} {args : Array Value} {below : List Frame} {meth : Method} {c : Code} {Q : State → Prop} {dC : Nat → ClassId} {dI : Nat → Nat → Nat} {cI cB cJ cZ : ClassId} {A : Nat → Prop} {E : Heap} {tM tC : Nat} {kK kV : Nat → Nat} {ad0 : Nat → Nat} {NN0 : Nat} {post : Int32 → St → Prop} {rec58 : Nat → Int32 → Nat → Nat → Int32 → Nat → Nat → St → Prop} (hx : p.tables.exec = Jvm.exec) (hb : c.code = b_Asm_assemble) (hml : c.maxLocals = 8) (hown : s.vm.findClass R_Asm = some m.cls) (hT : ∀ w ∈ TG, w.before args s = true) (hK : va_K (dC, dI) CL (TY cI cB cJ cZ) s) (hN : NW s) (hA : ∀ q : Nat, s.heap.size ≤ q → A q) (hRf : 207 ≤ R.frames) (hRl : 5516 ≤ R.locals) (hE : CE E tM tC kK kV A s) (hret : ∀ (r : Int32) (ad : Nat → Nat) (NN cells slots : Nat) (x : St) (H : Heap) (locs : List Loc) (pc : Nat) (ls : Array Slot), decode b_Asm_assemble pc = .ok (.ireturn, 1) → (NN0 ≤ NN ∧ ∀ o : Nat, o < NN0 → ad o = ad0 o) → cells ≤ R.cells → slots ≤ R.slots → post r x → Wd dC dI cI cB cJ cZ ad stC kcC NN A x H → va_S A s.heap H locs → W p l e R s m args below meth c H locs cells slots Q (F0 m pc ls [.int r])) (hrec58 : ∀ (ad : Nat → Nat) (NN cells slots : Nat) (o : Nat) (l1 : Int32) (l2 : Nat) (l3 : Nat) (l4 : Int32) (kb : Nat) (nb : Nat) (x : St) (H : Heap) (locs : List Loc) (ls : Array Slot), (152 ≤ NN) → (NN0 ≤ NN ∧ ∀ o : Nat, o < NN0 → ad o = ad0 o) → (cells + kb ≤ R.cells) → (slots + nb ≤ R.slots) → (o < NN ∧ kcC o = 11) → (l2 < NN ∧ kcC l2 = 23) → (l3 < NN ∧ kcC l3 = 3) → rec58 o l1 l2 l3 l4 kb nb x → Wd dC dI cI cB cJ cZ ad stC kcC NN A x H → va_S A s.heap H locs → lv_has ls 8 [(0, .ref (ad o)), (1, .int l1), (2, .ref (ad l2)), (3, .ref (ad l3)), (4, .int l4)] → W p l e R s m args below meth c H locs cells slots Q (F0 m 58 ls [])) : ∀ (ad : Nat → Nat) (NN cells slots : Nat) (o : Nat) (l1 : Int32) (l2 : Nat) (l3 : Nat) (l4 : Int32) (kb : Nat) (nb : Nat) (x : St) (H : Heap) (locs : List Loc) (ls : Array Slot), (152 ≤ NN) → (NN0 ≤ NN ∧ ∀ o : Nat, o < NN0 → ad o = ad0 o) → (cells + kb ≤ R.cells) → (slots + nb ≤ R.slots) → (o < NN ∧ kcC o = 11) → (l2 < NN ∧ kcC l2 = 23) → (l3 < NN ∧ kcC l3 = 3) → j_Asm_assemble_58 post rec58 o l1 l2 l3 l4 kb nb x → Wd dC dI cI cB cJ cZ ad stC kcC NN A x H → va_S A s.heap H locs → lv_has ls 8 [(0, .ref (ad o)), (1, .int l1), (2, .ref (ad l2)), (3, .ref (ad l3)), (4, .int l4)] → W p l e R s m args below meth c H locs cells slots Q (F0 m 58 ls []) := by
  intro ad NN cells slots o l1 l2 l3 l4 kb nb x H locs ls hNN hag hRc hRs fo fl2 fl3 hw hW hS hl
  unfold j_Asm_assemble_58 at hw
  refine lv_iload hx hb d_Asm_assemble_58 (lv_at hl 4 rfl) ?_
  refine lv_if_lt (tgt := 154) hx hb d_Asm_assemble_60 (by decide) (fun c5 => ?_) (fun c5 => ?_)
  · have hw := hw.1 c5
    refine lv_aload_n hx hb d_Asm_assemble_154 rfl (lv_at hl 0 rfl) ?_
    refine lv_iconst (v := (-1)) hx hb d_Asm_assemble_155 (by decide) ?_
    refine lv_iconst (v := 0) hx hb d_Asm_assemble_156 (by decide) ?_
    obtain ⟨k6, n7, k8, n9, ek6, en7, hw⟩ := hw
    have hF := hW.free hS hA
    refine va_callv (va_runV (C := R_Asm) (As := [.int (-1), .int 0]) (rest := []) ⟨hx, hb, hml, hown, hT⟩ (k_Asm_writeGroup l dC dI cI cB cJ cZ ad NN E tM tC kK kV hNN H.size o (-1) 0 k6 n7 x fo hw) ⟨callB_of 2 hT (gwt_in w_7_89) rfl rfl rfl (hT _ w_1_14) (hT _ w_7_86) (by decide +kernel) ⟨Nat.le_trans (Nat.le_of_ble_eq_true rfl) hRf, Nat.le_trans (Nat.le_of_ble_eq_true rfl) hRl⟩, hT _ w_7_88, hT _ ws_62⟩ ⟨PVc.blind, va_recv hK hW.1 (ci := 11) (q0 := o) rfl (pic_obj fo.1 fo.2 (by decide)), PVc.at _ hW hK hN hE hS hF⟩ rfl rfl hl.1 rfl (lv_room (Nat.le_of_ble_eq_true rfl)) d_Asm_assemble_157 ⟨show cells + k6 ≤ R.cells by omega, show slots + n7 ≤ R.slots by omega⟩) hS (fun q _ h => hF q h) hF (fun  x10 t H locs ht hvm hw hB hz1 hk1 hS => ?_)
    obtain ⟨x10, ad, NN⟩ := x10
    obtain ⟨hB, hle, hg⟩ := hB
    try dsimp only at hw hB hle hg
    have hW := Wd.back hB ht hF
    rw [← hg o fo.1] at hl
    rw [← hg l2 fl2.1] at hl
    rw [← hg l3 fl3.1] at hl
    have fl2 : l2 < NN ∧ kcC l2 = 23 := ⟨Nat.lt_of_lt_of_le fl2.1 hle, fl2.2⟩
    have fl3 : l3 < NN ∧ kcC l3 = 3 := ⟨Nat.lt_of_lt_of_le fl3.1 hle, fl3.2⟩
    have fo : o < NN ∧ kcC o = 11 := ⟨Nat.lt_of_lt_of_le fo.1 hle, fo.2⟩
    have hag : NN0 ≤ NN ∧ ∀ o : Nat, o < NN0 → ad o = ad0 o := ⟨Nat.le_trans hag.1 hle, fun o h => (hg o (Nat.lt_of_lt_of_le h hag.1)).trans (hag.2 o h)⟩
    have hNN : 152 ≤ NN := Nat.le_trans hNN hle
    clear hg hle
    obtain ⟨cells, ec⟩ : ∃ z, z = cells + k6 := ⟨_, rfl⟩
    obtain ⟨slots, es⟩ : ∃ z, z = slots + n7 := ⟨_, rfl⟩
    first | rw [← ec, ← es] | rw [Nat.add_zero, Nat.add_zero, ← ec, ← es]
    have hRc : cells + k8 ≤ R.cells := by omega
    have hRs : slots + n9 ≤ R.slots := by omega
    clear ec es hB ht hF hz1 hk1 hvm ek6 en7
    refine lv_aload_n hx hb d_Asm_assemble_160 rfl (lv_at hl 0 rfl) ?_
    refine w_getf (q := (stC o 0)) (k := 0) (t := 11) (C := R_Asm) (T := F_Asm) (N := 4) hx hb hT hown hK hW fo.1 fo.2 (by decide) in_Asm rfl rfl (by decide) rfl fr_Asm_0 w_3_221 d_Asm_assemble_161 rfl ?_
    refine w_geti (k := 2) (t := 1) (C := R_Snk) (T := F_Snk) (N := 7) hx hb hT hown hK hW (st_ty hNN fo.1 fo.2 rfl).1 (st_ty hNN fo.1 fo.2 rfl).2 (by decide) in_Snk rfl rfl (by decide) rfl fr_Snk_2 w_1_48 d_Asm_assemble_164 ?_
    refine lv_if_eq (tgt := 179) hx hb d_Asm_assemble_167 (by decide) (fun c11 => ?_) (fun c11 => ?_)
    · have hw := hw.1 c11
      refine lv_aload_n hx hb d_Asm_assemble_179 rfl (lv_at hl 0 rfl) ?_
      refine w_getf (q := (stC o 0)) (k := 0) (t := 11) (C := R_Asm) (T := F_Asm) (N := 4) hx hb hT hown hK hW fo.1 fo.2 (by decide) in_Asm rfl rfl (by decide) rfl fr_Asm_0 w_3_221 d_Asm_assemble_180 rfl ?_
      refine w_geti (k := 1) (t := 1) (C := R_Snk) (T := F_Snk) (N := 7) hx hb hT hown hK hW (st_ty hNN fo.1 fo.2 rfl).1 (st_ty hNN fo.1 fo.2 rfl).2 (by decide) in_Snk rfl rfl (by decide) rfl fr_Snk_1 w_1_45 d_Asm_assemble_183 ?_
      exact hret (fI x10 (stC o 0) 1) ad NN cells slots x10 H locs 186 ls d_Asm_assemble_186 hag (Nat.le_trans (Nat.le_add_right _ _) hRc) (Nat.le_trans (Nat.le_add_right _ _) hRs) hw hW hS
    · have hw := hw.2 c11
      refine lv_aload_n hx hb d_Asm_assemble_170 rfl (lv_at hl 0 rfl) ?_
      refine w_getf (q := (stC o 0)) (k := 0) (t := 11) (C := R_Asm) (T := F_Asm) (N := 4) hx hb hT hown hK hW fo.1 fo.2 (by decide) in_Asm rfl rfl (by decide) rfl fr_Asm_0 w_3_221 d_Asm_assemble_171 rfl ?_
      have hF := hW.free hS hA
      refine va_callv (va_runV (C := R_Snk) (As := []) (rest := []) ⟨hx, hb, hml, hown, hT⟩ (k_Snk_forget l dC dI cI cB cJ cZ ad NN E tM tC kK kV hNN H.size (stC o 0) x10 (st_ty hNN fo.1 fo.2 rfl) hw) ⟨callB_of 0 hT (gwt_in w_4_81) rfl rfl rfl (hT _ w_1_2) (hT _ w_7_80) (by decide +kernel) ⟨Nat.le_trans (Nat.le_of_ble_eq_true rfl) hRf, Nat.le_trans (Nat.le_of_ble_eq_true rfl) hRl⟩, hT _ w_4_79, hT _ w_4_80⟩ ⟨PVc.blind, va_recv hK hW.1 (ci := 1) (q0 := (stC o 0)) rfl (pic_obj (st_ty hNN fo.1 fo.2 rfl).1 (st_ty hNN fo.1 fo.2 rfl).2 (by decide)), PVc.at _ hW hK hN hE hS hF⟩ rfl rfl hl.1 rfl (lv_room (Nat.le_of_ble_eq_true rfl)) d_Asm_assemble_174 ⟨(Nat.le_trans (Nat.le_add_right _ _) hRc), (Nat.le_trans (Nat.le_add_right _ _) hRs)⟩) hS (fun q _ h => hF q h) hF (fun  x12 t H locs ht hvm hw hB hz1 hk1 hS => ?_)
      have hW := Wd.back hB ht hF
      clear hB ht hF hz1 hk1 hvm
      refine lv_iconst (v := (-1)) hx hb d_Asm_assemble_177 (by decide) ?_
      exact hret (-1) ad NN cells slots x12 H locs 178 ls d_Asm_assemble_178 hag (Nat.le_trans (Nat.le_add_right _ _) hRc) (Nat.le_trans (Nat.le_add_right _ _) hRs) hw hW hS
  · have hw := hw.2 c5
    refine lv_aload_n hx hb d_Asm_assemble_63 rfl (lv_at hl 0 rfl) ?_
    refine w_getf (q := (stC o 2)) (k := 2) (t := 11) (C := R_Asm) (T := F_Asm) (N := 4) hx hb hT hown hK hW fo.1 fo.2 (by decide) in_Asm rfl rfl (by decide) rfl fr_Asm_2 w_3_224 d_Asm_assemble_64 rfl ?_
    refine lv_iload hx hb d_Asm_assemble_67 (lv_at hl 4 rfl) ?_
    refine lv_aload_n hx hb d_Asm_assemble_69 rfl (lv_at hl 0 rfl) ?_
    refine w_getf (q := (stC o 1)) (k := 1) (t := 11) (C := R_Asm) (T := F_Asm) (N := 4) hx hb hT hown hK hW fo.1 fo.2 (by decide) in_Asm rfl rfl (by decide) rfl fr_Asm_1 w_3_223 d_Asm_assemble_70 rfl ?_
    refine lv_iload_n hx hb d_Asm_assemble_73 rfl (lv_at hl 1 rfl) ?_
    refine lv_iload hx hb d_Asm_assemble_74 (lv_at hl 4 rfl) ?_
    have hF := hW.free hS hA
    refine va_calli (va_runV (C := R_Vlt) (As := [.int l1, .int l4]) (rest := [.int l4, .ref (ad (stC o 2))]) ⟨hx, hb, hml, hown, hT⟩ (k_Vlt_entryOf l dC dI cI cB cJ cZ ad NN E tM tC kK kV hNN H.size (stC o 1) l1 l4 x (st_ty hNN fo.1 fo.2 rfl) hw) ⟨callB_of 2 hT (gwt_in w_7_85) rfl rfl rfl (hT _ w_1_9) (hT _ w_7_82) (by decide +kernel) ⟨Nat.le_trans (Nat.le_of_ble_eq_true rfl) hRf, Nat.le_trans (Nat.le_of_ble_eq_true rfl) hRl⟩, hT _ w_7_83, hT _ w_7_84⟩ ⟨PVc.blind, va_recv hK hW.1 (ci := 6) (q0 := (stC o 1)) rfl (pic_obj (st_ty hNN fo.1 fo.2 rfl).1 (st_ty hNN fo.1 fo.2 rfl).2 (by decide)), PVc.at _ hW hK hN hE hS hF⟩ rfl rfl hl.1 rfl (lv_room (Nat.le_of_ble_eq_true rfl)) d_Asm_assemble_76 ⟨(Nat.le_trans (Nat.le_add_right _ _) hRc), (Nat.le_trans (Nat.le_add_right _ _) hRs)⟩) hS (fun q _ h => hF q h) hF (fun r14 x13 t H locs ht hvm hw hB hz1 hk1 hS => ?_)
    have hW := Wd.back hB ht hF
    clear hB ht hF hz1 hk1 hvm
    obtain ⟨hi, hw⟩ := hw
    refine w_iast (o := (stC o 2)) hx hb hK hW hS (st_ty hNN fo.1 fo.2 rfl).1 (st_ty hNN fo.1 fo.2 rfl).2 hi d_Asm_assemble_79 (fun H locs hW hS => ?_)
    obtain ⟨x15, ex15⟩ : ∃ y : St, y = setA x13 (stC o 2) l4 r14 := ⟨_, rfl⟩
    rw [← ex15] at hW
    have hw := hw x15 ex15
    refine lv_aload_n hx hb d_Asm_assemble_80 rfl (lv_at hl 3 rfl) ?_
    refine w_getf (q := (stC l3 10)) (k := 10) (t := 3) (C := R_Sch) (T := F_Sch) (N := 13) hx hb hT hown hK hW fl3.1 fl3.2 (by decide) in_Sch rfl rfl (by decide) rfl fr_Sch_10 w_1_179 d_Asm_assemble_81 rfl ?_
    refine lv_iload hx hb d_Asm_assemble_84 (lv_at hl 4 rfl) ?_
    obtain ⟨hi, hw⟩ := hw
    refine w_iald (o := (stC l3 10)) hx hb hK hW (st_ty hNN fl3.1 fl3.2 rfl).1 (st_ty hNN fl3.1 fl3.2 rfl).2 hi d_Asm_assemble_86 ?_
    refine lv_topi (fun v16 ev16 => ?_)
    have hw := hw v16 ev16
    refine lv_istore (lv' := [(5, .int v16), (0, .ref (ad o)), (1, .int l1), (2, .ref (ad l2)), (3, .ref (ad l3)), (4, .int l4)]) hx hb d_Asm_assemble_87 hl (by decide) rfl (fun ls hl => ?_)
    refine lv_aload_n hx hb d_Asm_assemble_89 rfl (lv_at hl 3 rfl) ?_
    refine lv_ifnull hx hb d_Asm_assemble_90 ?_
    refine lv_aload_n hx hb d_Asm_assemble_93 rfl (lv_at hl 3 rfl) ?_
    refine lv_iload hx hb d_Asm_assemble_94 (lv_at hl 0 rfl) ?_
    obtain ⟨hi, hw⟩ := hw
    refine w_zald (o := l2) hx hb hK hW fl2.1 fl2.2 hi d_Asm_assemble_96 ?_
    refine lv_if_eq (tgt := 105) hx hb d_Asm_assemble_97 (by decide) (fun c17 => ?_) (fun c17 => ?_)
    · have hw := hw.1 c17
      refine lv_iconst (v := (-1)) hx hb d_Asm_assemble_105 (by decide) ?_
      exact t_Asm_assemble_106 hx hb hml hown hT hK hN hA hRf hRl hE hret hrec58 ad NN cells slots o l1 l2 l3 l4 v16 (-1) kb nb x15 H locs ls hNN hag hRc hRs fo fl2 fl3 hw hW hS (lv_sub hl [1, 2, 3, 4, 5, 0] rfl)
    · have hw := hw.2 c17
      exact t_Asm_assemble_100 hx hb hml hown hT hK hN hA hRf hRl hE hret hrec58 ad NN cells slots o l1 l2 l3 l4 v16 kb nb x15 H locs ls hNN hag hRc hRs fo fl2 fl3 hw hW hS (lv_sub hl [1, 2, 3, 4, 5, 0] rfl)
set_option maxHeartbeats 4000000 in
set_option maxRecDepth 100000 in
theorem tl_Asm_assemble_58 {p : Program} {l : Launch} {e : Env} {R : Room} {s : State} {m : MethodId} {args : Array Value} {below : List Frame} {meth : Method} {c : Code} {Q : State → Prop} {dC : Nat → ClassId} {dI : Nat → Nat → Nat} {cI cB cJ cZ : ClassId} {A : Nat → Prop} {E : Heap} {tM tC : Nat} {kK kV : Nat → Nat} {ad0 : Nat → Nat} {NN0 : Nat} {post : Int32 → St → Prop} (hx : p.tables.exec = Jvm.exec) (hb : c.code = b_Asm_assemble) (hml : c.maxLocals = 8) (hown : s.vm.findClass R_Asm = some m.cls) (hT : ∀ w ∈ TG, w.before args s = true) (hK : va_K (dC, dI) CL (TY cI cB cJ cZ) s) (hN : NW s) (hA : ∀ q : Nat, s.heap.size ≤ q → A q) (hRf : 207 ≤ R.frames) (hRl : 5516 ≤ R.locals) (hE : CE E tM tC kK kV A s) (hret : ∀ (r : Int32) (ad : Nat → Nat) (NN cells slots : Nat) (x : St) (H : Heap) (locs : List Loc) (pc : Nat) (ls : Array Slot), decode b_Asm_assemble pc = .ok (.ireturn, 1) → (NN0 ≤ NN ∧ ∀ o : Nat, o < NN0 → ad o = ad0 o) → cells ≤ R.cells → slots ≤ R.slots → post r x → Wd dC dI cI cB cJ cZ ad stC kcC NN A x H → va_S A s.heap H locs → W p l e R s m args below meth c H locs cells slots Q (F0 m pc ls [.int r]))  : ∀ n : Nat, ∀ (ad : Nat → Nat) (NN cells slots : Nat) (o : Nat) (l1 : Int32) (l2 : Nat) (l3 : Nat) (l4 : Int32) (kb : Nat) (nb : Nat) (x : St) (H : Heap) (locs : List Loc) (ls : Array Slot), (152 ≤ NN) → (NN0 ≤ NN ∧ ∀ o : Nat, o < NN0 → ad o = ad0 o) → (cells + kb ≤ R.cells) → (slots + nb ≤ R.slots) → (o < NN ∧ kcC o = 11) → (l2 < NN ∧ kcC l2 = 23) → (l3 < NN ∧ kcC l3 = 3) → wl_Asm_assemble_58 post n o l1 l2 l3 l4 kb nb x → Wd dC dI cI cB cJ cZ ad stC kcC NN A x H → va_S A s.heap H locs → lv_has ls 8 [(0, .ref (ad o)), (1, .int l1), (2, .ref (ad l2)), (3, .ref (ad l3)), (4, .int l4)] → W p l e R s m args below meth c H locs cells slots Q (F0 m 58 ls []) := by
  intro n
  induction n with
  | zero => intro ad NN cells slots o l1 l2 l3 l4 kb nb x H locs ls hNN hag hRc hRs fo fl2 fl3 hw; exact hw.elim
  | succ n ih => intro ad NN cells slots o l1 l2 l3 l4 kb nb x H locs ls hNN hag hRc hRs fo fl2 fl3 hw hW hS hl; exact t_Asm_assemble_58 hx hb hml hown hT hK hN hA hRf hRl hE hret  ih ad NN cells slots o l1 l2 l3 l4 kb nb x H locs ls hNN hag hRc hRs fo fl2 fl3 hw hW hS hl
set_option maxRecDepth 100000 in
set_option maxHeartbeats 4000000 in
set_option maxRecDepth 100000 in
theorem t_Asm_assemble_32 {p : Program} {l : Launch} {e : Env} {R : Room} {s : State} {m : MethodId} {args : Array Value} {below : List Frame} {meth : Method} {c : Code} {Q : State → Prop} {dC : Nat → ClassId} {dI : Nat → Nat → Nat} {cI cB cJ cZ : ClassId} {A : Nat → Prop} {E : Heap} {tM tC : Nat} {kK kV : Nat → Nat} {ad0 : Nat → Nat} {NN0 : Nat} {post : Int32 → St → Prop} (hx : p.tables.exec = Jvm.exec) (hb : c.code = b_Asm_assemble) (hml : c.maxLocals = 8) (hown : s.vm.findClass R_Asm = some m.cls) (hT : ∀ w ∈ TG, w.before args s = true) (hK : va_K (dC, dI) CL (TY cI cB cJ cZ) s) (hN : NW s) (hA : ∀ q : Nat, s.heap.size ≤ q → A q) (hRf : 207 ≤ R.frames) (hRl : 5516 ≤ R.locals) (hE : CE E tM tC kK kV A s) (hret : ∀ (r : Int32) (ad : Nat → Nat) (NN cells slots : Nat) (x : St) (H : Heap) (locs : List Loc) (pc : Nat) (ls : Array Slot), decode b_Asm_assemble pc = .ok (.ireturn, 1) → (NN0 ≤ NN ∧ ∀ o : Nat, o < NN0 → ad o = ad0 o) → cells ≤ R.cells → slots ≤ R.slots → post r x → Wd dC dI cI cB cJ cZ ad stC kcC NN A x H → va_S A s.heap H locs → W p l e R s m args below meth c H locs cells slots Q (F0 m pc ls [.int r]))  : ∀ (ad : Nat → Nat) (NN cells slots : Nat) (o : Nat) (l1 : Int32) (l2 : Nat) (kb : Nat) (nb : Nat) (x : St) (H : Heap) (locs : List Loc) (ls : Array Slot), (152 ≤ NN) → (NN0 ≤ NN ∧ ∀ o : Nat, o < NN0 → ad o = ad0 o) → (cells + kb ≤ R.cells) → (slots + nb ≤ R.slots) → (o < NN ∧ kcC o = 11) → (l2 < NN ∧ kcC l2 = 23) → j_Asm_assemble_32 post o l1 l2 kb nb x → Wd dC dI cI cB cJ cZ ad stC kcC NN A x H → va_S A s.heap H locs → lv_has ls 8 [(0, .ref (ad o)), (1, .int l1), (2, .ref (ad l2))] → W p l e R s m args below meth c H locs cells slots Q (F0 m 32 ls []) := by
  intro ad NN cells slots o l1 l2 kb nb x H locs ls hNN hag hRc hRs fo fl2 hw hW hS hl
  unfold j_Asm_assemble_32 at hw
  refine lv_iconst (v := (-1)) hx hb d_Asm_assemble_32 (by decide) ?_
  exact hret (-1) ad NN cells slots x H locs 33 ls d_Asm_assemble_33 hag (Nat.le_trans (Nat.le_add_right _ _) hRc) (Nat.le_trans (Nat.le_add_right _ _) hRs) hw hW hS
set_option maxRecDepth 100000 in
set_option maxHeartbeats 4000000 in
set_option maxRecDepth 100000 in
theorem t_Asm_assemble_e {p : Program} {l : Launch} {e : Env} {R : Room} {s : State} {m : MethodId} {args : Array Value} {below : List Frame} {meth : Method} {c : Code} {Q : State → Prop} {dC : Nat → ClassId} {dI : Nat → Nat → Nat} {cI cB cJ cZ : ClassId} {A : Nat → Prop} {E : Heap} {tM tC : Nat} {kK kV : Nat → Nat} {ad0 : Nat → Nat} {NN0 : Nat} {post : Int32 → St → Prop} (hx : p.tables.exec = Jvm.exec) (hb : c.code = b_Asm_assemble) (hml : c.maxLocals = 8) (hown : s.vm.findClass R_Asm = some m.cls) (hT : ∀ w ∈ TG, w.before args s = true) (hK : va_K (dC, dI) CL (TY cI cB cJ cZ) s) (hN : NW s) (hA : ∀ q : Nat, s.heap.size ≤ q → A q) (hRf : 207 ≤ R.frames) (hRl : 5516 ≤ R.locals) (hE : CE E tM tC kK kV A s) (hret : ∀ (r : Int32) (ad : Nat → Nat) (NN cells slots : Nat) (x : St) (H : Heap) (locs : List Loc) (pc : Nat) (ls : Array Slot), decode b_Asm_assemble pc = .ok (.ireturn, 1) → (NN0 ≤ NN ∧ ∀ o : Nat, o < NN0 → ad o = ad0 o) → cells ≤ R.cells → slots ≤ R.slots → post r x → Wd dC dI cI cB cJ cZ ad stC kcC NN A x H → va_S A s.heap H locs → W p l e R s m args below meth c H locs cells slots Q (F0 m pc ls [.int r])) : ∀ (ad : Nat → Nat) (NN cells slots : Nat) (o : Nat) (l1 : Int32) (l2 : Nat) (kb : Nat) (nb : Nat) (x : St) (H : Heap) (locs : List Loc) (ls : Array Slot), (152 ≤ NN) → (NN0 ≤ NN ∧ ∀ o : Nat, o < NN0 → ad o = ad0 o) → (cells + kb ≤ R.cells) → (slots + nb ≤ R.slots) → (o < NN ∧ kcC o = 11) → (l2 < NN ∧ kcC l2 = 23) → wp_Asm_assemble post o l1 l2 kb nb x → Wd dC dI cI cB cJ cZ ad stC kcC NN A x H → va_S A s.heap H locs → lv_has ls 8 [(0, .ref (ad o)), (1, .int l1), (2, .ref (ad l2))] → W p l e R s m args below meth c H locs cells slots Q (F0 m 0 ls []) := by
  intro ad NN cells slots o l1 l2 kb nb x H locs ls hNN hag hRc hRs fo fl2 hw hW hS hl
  unfold wp_Asm_assemble at hw
  refine lv_aload_n hx hb d_Asm_assemble_0 rfl (lv_at hl 0 rfl) ?_
  refine w_getf (q := (stC o 0)) (k := 0) (t := 11) (C := R_Asm) (T := F_Asm) (N := 4) hx hb hT hown hK hW fo.1 fo.2 (by decide) in_Asm rfl rfl (by decide) rfl fr_Asm_0 w_3_221 d_Asm_assemble_1 rfl ?_
  have hF := hW.free hS hA
  refine va_callv (va_runV (C := R_Snk) (As := []) (rest := []) ⟨hx, hb, hml, hown, hT⟩ (k_Snk_forget l dC dI cI cB cJ cZ ad NN E tM tC kK kV hNN H.size (stC o 0) x (st_ty hNN fo.1 fo.2 rfl) hw) ⟨callB_of 0 hT (gwt_in w_4_81) rfl rfl rfl (hT _ w_1_2) (hT _ w_7_80) (by decide +kernel) ⟨Nat.le_trans (Nat.le_of_ble_eq_true rfl) hRf, Nat.le_trans (Nat.le_of_ble_eq_true rfl) hRl⟩, hT _ w_4_79, hT _ w_4_80⟩ ⟨PVc.blind, va_recv hK hW.1 (ci := 1) (q0 := (stC o 0)) rfl (pic_obj (st_ty hNN fo.1 fo.2 rfl).1 (st_ty hNN fo.1 fo.2 rfl).2 (by decide)), PVc.at _ hW hK hN hE hS hF⟩ rfl rfl hl.1 rfl (lv_room (Nat.le_of_ble_eq_true rfl)) d_Asm_assemble_4 ⟨(Nat.le_trans (Nat.le_add_right _ _) hRc), (Nat.le_trans (Nat.le_add_right _ _) hRs)⟩) hS (fun q _ h => hF q h) hF (fun  x18 t H locs ht hvm hw hB hz1 hk1 hS => ?_)
  have hW := Wd.back hB ht hF
  clear hB ht hF hz1 hk1 hvm
  refine lv_aload_n hx hb d_Asm_assemble_7 rfl (lv_at hl 0 rfl) ?_
  refine w_getf (q := (stC o 1)) (k := 1) (t := 11) (C := R_Asm) (T := F_Asm) (N := 4) hx hb hT hown hK hW fo.1 fo.2 (by decide) in_Asm rfl rfl (by decide) rfl fr_Asm_1 w_3_223 d_Asm_assemble_8 rfl ?_
  refine w_geti (k := 0) (t := 6) (C := R_Vlt) (T := F_Vlt) (N := 20) hx hb hT hown hK hW (st_ty hNN fo.1 fo.2 rfl).1 (st_ty hNN fo.1 fo.2 rfl).2 (by decide) in_Vlt rfl rfl (by decide) rfl fr_Vlt_0 w_2_121 d_Asm_assemble_11 ?_
  refine lv_if_eq (tgt := 32) hx hb d_Asm_assemble_14 (by decide) (fun c19 => ?_) (fun c19 => ?_)
  · have hw := hw.1 c19
    exact t_Asm_assemble_32 hx hb hml hown hT hK hN hA hRf hRl hE hret  ad NN cells slots o l1 l2 kb nb x18 H locs ls hNN hag hRc hRs fo fl2 hw hW hS (lv_sub hl [0, 1, 2] rfl)
  · have hw := hw.2 c19
    refine lv_iload_n hx hb d_Asm_assemble_17 rfl (lv_at hl 1 rfl) ?_
    refine lv_if_lt (tgt := 32) hx hb d_Asm_assemble_18 (by decide) (fun c20 => ?_) (fun c20 => ?_)
    · have hw := hw.1 c20
      exact t_Asm_assemble_32 hx hb hml hown hT hK hN hA hRf hRl hE hret  ad NN cells slots o l1 l2 kb nb x18 H locs ls hNN hag hRc hRs fo fl2 hw hW hS (lv_sub hl [0, 1, 2] rfl)
    · have hw := hw.2 c20
      refine lv_iload_n hx hb d_Asm_assemble_21 rfl (lv_at hl 1 rfl) ?_
      refine lv_aload_n hx hb d_Asm_assemble_22 rfl (lv_at hl 0 rfl) ?_
      refine w_getf (q := (stC o 1)) (k := 1) (t := 11) (C := R_Asm) (T := F_Asm) (N := 4) hx hb hT hown hK hW fo.1 fo.2 (by decide) in_Asm rfl rfl (by decide) rfl fr_Asm_1 w_3_223 d_Asm_assemble_23 rfl ?_
      refine w_geti (k := 1) (t := 6) (C := R_Vlt) (T := F_Vlt) (N := 20) hx hb hT hown hK hW (st_ty hNN fo.1 fo.2 rfl).1 (st_ty hNN fo.1 fo.2 rfl).2 (by decide) in_Vlt rfl rfl (by decide) rfl fr_Vlt_1 w_2_123 d_Asm_assemble_26 ?_
      refine lv_icmp_lt (tgt := 34) hx hb d_Asm_assemble_29 (by decide) (fun c21 => ?_) (fun c21 => ?_)
      · have hw := hw.1 c21
        refine lv_aload_n hx hb d_Asm_assemble_34 rfl (lv_at hl 0 rfl) ?_
        refine w_getf (q := (stC o 1)) (k := 1) (t := 11) (C := R_Asm) (T := F_Asm) (N := 4) hx hb hT hown hK hW fo.1 fo.2 (by decide) in_Asm rfl rfl (by decide) rfl fr_Asm_1 w_3_223 d_Asm_assemble_35 rfl ?_
        refine w_getf (q := (stC (stC o 1) 5)) (k := 5) (t := 6) (C := R_Vlt) (T := F_Vlt) (N := 20) hx hb hT hown hK hW (st_ty hNN fo.1 fo.2 rfl).1 (st_ty hNN fo.1 fo.2 rfl).2 (by decide) in_Vlt rfl rfl (by decide) rfl fr_Vlt_5 w_2_135 d_Asm_assemble_38 rfl ?_
        refine lv_astore_n (lv' := [(3, .ref (ad (stC (stC o 1) 5))), (0, .ref (ad o)), (1, .int l1), (2, .ref (ad l2))]) hx hb d_Asm_assemble_41 rfl hl (by decide) rfl (fun ls hl => ?_)
        refine lv_aload_n hx hb d_Asm_assemble_42 rfl (lv_at hl 1 rfl) ?_
        refine w_getf (q := (stC o 3)) (k := 3) (t := 11) (C := R_Asm) (T := F_Asm) (N := 4) hx hb hT hown hK hW fo.1 fo.2 (by decide) in_Asm rfl rfl (by decide) rfl fr_Asm_3 w_3_225 d_Asm_assemble_43 rfl ?_
        refine lv_iconst (v := (-1)) hx hb d_Asm_assemble_46 (by decide) ?_
        have hF := hW.free hS hA
        refine va_callv (va_runS (As := [.ref (ad (stC o 3)), .int (-1)]) (rest := []) ⟨hx, hb, hml, hown, hT⟩ (k_JArr_fill l dC dI cI cB cJ cZ ad NN E tM tC kK kV hNN H.size (stC o 3) (-1) x18 (st_ty hNN fo.1 fo.2 rfl) hw) ⟨callB_of 2 hT (gwt_in w_1_226) rfl rfl rfl (hT _ w_1_7) (hT _ w_7_81) (by decide +kernel) ⟨Nat.le_trans (Nat.le_of_ble_eq_true rfl) hRf, Nat.le_trans (Nat.le_of_ble_eq_true rfl) hRl⟩, hT _ w_1_225⟩ ⟨PVc.blind, PVc.at _ hW hK hN hE hS hF⟩ rfl rfl hl.1 rfl (lv_room (Nat.le_of_ble_eq_true rfl)) d_Asm_assemble_47 ⟨(Nat.le_trans (Nat.le_add_right _ _) hRc), (Nat.le_trans (Nat.le_add_right _ _) hRs)⟩) hS (fun q _ h => hF q h) hF (fun  x22 t H locs ht hvm hw hB hz1 hk1 hS => ?_)
        have hW := Wd.back hB ht hF
        clear hB ht hF hz1 hk1 hvm
        refine lv_aload_n hx hb d_Asm_assemble_50 rfl (lv_at hl 0 rfl) ?_
        refine w_geti (k := 1) (t := 3) (C := R_Sch) (T := F_Sch) (N := 13) hx hb hT hown hK hW (st_ty hNN (st_ty hNN fo.1 fo.2 rfl).1 (st_ty hNN fo.1 fo.2 rfl).2 rfl).1 (st_ty hNN (st_ty hNN fo.1 fo.2 rfl).1 (st_ty hNN fo.1 fo.2 rfl).2 rfl).2 (by decide) in_Sch rfl rfl (by decide) rfl fr_Sch_1 w_1_136 d_Asm_assemble_51 ?_
        refine lv_iconst (v := 1) hx hb d_Asm_assemble_54 (by decide) ?_
        refine lv_isub hx hb d_Asm_assemble_55 ?_
        refine lv_topi (fun v23 ev23 => ?_)
        have hw := hw v23 ev23
        refine lv_istore (lv' := [(4, .int v23), (3, .ref (ad (stC (stC o 1) 5))), (0, .ref (ad o)), (1, .int l1), (2, .ref (ad l2))]) hx hb d_Asm_assemble_56 hl (by decide) rfl (fun ls hl => ?_)
        obtain ⟨n, hw⟩ := hw
        exact tl_Asm_assemble_58 hx hb hml hown hT hK hN hA hRf hRl hE hret  n ad NN cells slots o l1 l2 (stC (stC o 1) 5) v23 kb nb x22 H locs ls hNN hag hRc hRs fo fl2 (st_ty hNN (st_ty hNN fo.1 fo.2 rfl).1 (st_ty hNN fo.1 fo.2 rfl).2 rfl) hw hW hS (lv_sub hl [2, 3, 4, 1, 0] rfl)
      · have hw := hw.2 c21
        exact t_Asm_assemble_32 hx hb hml hown hT hK hN hA hRf hRl hE hret  ad NN cells slots o l1 l2 kb nb x18 H locs ls hNN hag hRc hRs fo fl2 hw hW hS (lv_sub hl [0, 1, 2] rfl)
set_option maxHeartbeats 4000000 in
set_option maxRecDepth 100000 in
theorem k_Asm_assemble (l : Launch) (dC : Nat → ClassId) (dI : Nat → Nat → Nat) (cI cB cJ cZ : ClassId) (ad : Nat → Nat) (NN : Nat) (E : Heap) (tM tC : Nat) (kK kV : Nat → Nat) (hNN : 152 ≤ NN) (sz : Nat) (o : Nat) (l1 : Int32) (l2 : Nat) (kb : Nat) (nb : Nat) (x : St) (fo : o < NN ∧ kcC o = 11) (fl2 : l2 < NN ∧ kcC l2 = 23) {post : Int32 → St → Prop} (hw : wp_Asm_assemble post o l1 l2 kb nb x) : Met l y_Asm_assemble (wsOf y_Asm_assemble b_Asm_assemble 8 (some (.int))) ({ frames := 207, cells := kb, slots := nb, locals := 5516 }) (va_Pc [.ref (ad o), .int l1, .ref (ad l2)] (PVc dC dI cI cB cJ cZ ad stC kcC NN E tM tC kK kV sz x)) (va_Qi (fun (r : Int32) (u : St × (Nat → Nat) × Nat) => post r u.1) (fun u t => Wd dC dI cI cB cJ cZ u.2.1 stC kcC u.2.2 (va_A (pic ad stC kcC NN cI cB cJ cZ x) sz) u.1 t.heap ∧ NN ≤ u.2.2 ∧ ∀ o : Nat, o < NN → u.2.1 o = ad o) (va_A (pic ad stC kcC NN cI cB cJ cZ x) sz)) kb nb (va_A (pic ad stC kcC NN cI cB cJ cZ x) sz) := by
  refine Met.ofW (cc := b_Asm_assemble) (maxL := 8) (ret := some (.int)) (by decide) rfl ?_
  intro p e s m args below meth c s₁ B hml hv
  obtain ⟨rfl, ⟨hsz, hW0, hK, hN⟩, hE⟩ := hv
  have hx := B.exec
  have hb := B.bytes
  have hr := B.returns
  have hts := atoms_spec B.pre
  have hT : ∀ w ∈ TG, w.before _ s = true := fun w h => hts w (List.mem_cons_of_mem _ h)
  have hown : s.vm.findClass R_Asm = some m.cls := findClass_of_methodNamed B.named
  have hlocks := B.notSynchronized
  subst hsz
  have hW : Wd dC dI cI cB cJ cZ ad stC kcC NN (va_A (pic ad stC kcC NN cI cB cJ cZ x) s.heap.size) x s.heap := ⟨hW0.1, hW0.2.1.self (sz := s.heap.size), hW0.2.2⟩
  generalize hAe : va_A (pic ad stC kcC NN cI cB cJ cZ x) s.heap.size = A at hW hE ⊢
  have hA : ∀ q : Nat, s.heap.size ≤ q → A q := fun q h => by rw [← hAe]; exact Or.inr h
  have hS : va_S A s.heap s.heap [] := va_S.rf
  have hl := lv_entry ([.ref (ad o), .int l1, .ref (ad l2)]) (n := 8) (Nat.le_of_ble_eq_true rfl)
  rw [lg_entry_eq]
  generalize (lg_sl ([.ref (ad o), .int l1, .ref (ad l2)]) ++ List.replicate (8 - (lg_sl ([.ref (ad o), .int l1, .ref (ad l2)])).length) Slot.unset).toArray = ls at hl ⊢
  have hl : lv_has ls 8 [(0, .ref (ad o)), (1, .int l1), (2, .ref (ad l2))] := hl
  exact t_Asm_assemble_e hx hb hml hown hT hK hN hA (Nat.le_refl 207) (Nat.le_refl 5516) hE (fun r ad1 NN1 cells slots x1 H locs pc ls hd hag hc hs hp hW hS => W.widen (k := kb) (n := nb) hc hs (W.iret (v := r) hx hb hr (fun t ht hM => ⟨⟨r, (x1, ad1, NN1), rfl, hp, Wd.back hW ht.symm (fun _ z => z), hag.1, hag.2⟩, hS.F ht⟩) hS.2.2 hd hlocks))  ad NN 0 0 o l1 l2 kb nb x _ _ ls hNN ⟨Nat.le_refl _, fun _ _ => rfl⟩ (Nat.le_of_eq (Nat.zero_add kb)) (Nat.le_of_eq (Nat.zero_add nb)) fo fl2 hw hW hS hl
abbrev b_Asm_assembleN : ByteArray := b_Asm_assemble
abbrev y_Asm_assembleN : MethodName := y_Asm_assemble
set_option maxRecDepth 100000 in
set_option maxHeartbeats 4000000 in
set_option maxRecDepth 100000 in
theorem t_Asm_assembleN_148 {p : Program} {l : Launch} {e : Env} {R : Room} {s : State} {m : MethodId} {args : Array Value} {below : List Frame} {meth : Method} {c : Code} {Q : State → Prop} {dC : Nat → ClassId} {dI : Nat → Nat → Nat} {cI cB cJ cZ : ClassId} {A : Nat → Prop} {E : Heap} {tM tC : Nat} {kK kV : Nat → Nat} {ad0 : Nat → Nat} {NN0 : Nat} {post : Int32 → St → Prop} {rec58 : Nat → Int32 → Nat → Int32 → Nat → Nat → St → Prop} (hx : p.tables.exec = Jvm.exec) (hb : c.code = b_Asm_assembleN) (hml : c.maxLocals = 8) (hown : s.vm.findClass R_Asm = some m.cls) (hT : ∀ w ∈ TG, w.before args s = true) (hK : va_K (dC, dI) CL (TY cI cB cJ cZ) s) (hN : NW s) (hA : ∀ q : Nat, s.heap.size ≤ q → A q) (hRf : 207 ≤ R.frames) (hRl : 5516 ≤ R.locals) (hE : CE E tM tC kK kV A s) (hret : ∀ (r : Int32) (ad : Nat → Nat) (NN cells slots : Nat) (x : St) (H : Heap) (locs : List Loc) (pc : Nat) (ls : Array Slot), decode b_Asm_assembleN pc = .ok (.ireturn, 1) → (NN0 ≤ NN ∧ ∀ o : Nat, o < NN0 → ad o = ad0 o) → cells ≤ R.cells → slots ≤ R.slots → post r x → Wd dC dI cI cB cJ cZ ad stC kcC NN A x H → va_S A s.heap H locs → W p l e R s m args below meth c H locs cells slots Q (F0 m pc ls [.int r])) (hrec58 : ∀ (ad : Nat → Nat) (NN cells slots : Nat) (o : Nat) (l1 : Int32) (l3 : Nat) (l4 : Int32) (kb : Nat) (nb : Nat) (x : St) (H : Heap) (locs : List Loc) (ls : Array Slot), (152 ≤ NN) → (NN0 ≤ NN ∧ ∀ o : Nat, o < NN0 → ad o = ad0 o) → (cells + kb ≤ R.cells) → (slots + nb ≤ R.slots) → (o < NN ∧ kcC o = 11) → (l3 < NN ∧ kcC l3 = 3) → rec58 o l1 l3 l4 kb nb x → Wd dC dI cI cB cJ cZ ad stC kcC NN A x H → va_S A s.heap H locs → lv_has ls 8 [(0, .ref (ad o)), (1, .int l1), (2, .null), (3, .ref (ad l3)), (4, .int l4)] → W p l e R s m args below meth c H locs cells slots Q (F0 m 58 ls [])) : ∀ (ad : Nat → Nat) (NN cells slots : Nat) (o : Nat) (l1 : Int32) (l3 : Nat) (l4 : Int32) (l5 : Int32) (l6 : Int32) (l7 : Int32) (kb : Nat) (nb : Nat) (x : St) (H : Heap) (locs : List Loc) (ls : Array Slot), (152 ≤ NN) → (NN0 ≤ NN ∧ ∀ o : Nat, o < NN0 → ad o = ad0 o) → (cells + kb ≤ R.cells) → (slots + nb ≤ R.slots) → (o < NN ∧ kcC o = 11) → (l3 < NN ∧ kcC l3 = 3) → j_Asm_assembleN_148 post rec58 o l1 l3 l4 l5 l6 l7 kb nb x → Wd dC dI cI cB cJ cZ ad stC kcC NN A x H → va_S A s.heap H locs → lv_has ls 8 [(0, .ref (ad o)), (1, .int l1), (2, .null), (3, .ref (ad l3)), (4, .int l4), (5, .int l5), (6, .int l6), (7, .int l7)] → W p l e R s m args below meth c H locs cells slots Q (F0 m 148 ls []) := by
  intro ad NN cells slots o l1 l3 l4 l5 l6 l7 kb nb x H locs ls hNN hag hRc hRs fo fl3 hw hW hS hl
  unfold j_Asm_assembleN_148 at hw
  refine lv_iinc (v := (l4 + (-1))) (lv' := [(4, .int (l4 + (-1))), (0, .ref (ad o)), (1, .int l1), (2, .null), (3, .ref (ad l3)), (5, .int l5), (6, .int l6), (7, .int l7)]) hx hb d_Asm_assemble_148 hl (k := 4) rfl rfl (by decide) rfl (fun ls hl => ?_)
  refine lv_goto (tgt := 58) hx hb d_Asm_assemble_151 (by decide) ?_
  exact hrec58 ad NN cells slots o l1 l3 (l4 + (-1)) kb nb x H locs ls hNN hag hRc hRs fo fl3 hw hW hS (lv_sub hl [1, 2, 3, 4, 0] rfl)
set_option maxRecDepth 100000 in
set_option maxHeartbeats 4000000 in
set_option maxRecDepth 100000 in
theorem t_Asm_assembleN_111 {p : Program} {l : Launch} {e : Env} {R : Room} {s : State} {m : MethodId} {args : Array Value} {below : List Frame} {meth : Method} {c : Code} {Q : State → Prop} {dC : Nat → ClassId} {dI : Nat → Nat → Nat} {cI cB cJ cZ : ClassId} {A : Nat → Prop} {E : Heap} {tM tC : Nat} {kK kV : Nat → Nat} {ad0 : Nat → Nat} {NN0 : Nat} {post : Int32 → St → Prop} {rec58 : Nat → Int32 → Nat → Int32 → Nat → Nat → St → Prop} {rec111 : Nat → Int32 → Nat → Int32 → Int32 → Int32 → Int32 → Nat → Nat → St → Prop} (hx : p.tables.exec = Jvm.exec) (hb : c.code = b_Asm_assembleN) (hml : c.maxLocals = 8) (hown : s.vm.findClass R_Asm = some m.cls) (hT : ∀ w ∈ TG, w.before args s = true) (hK : va_K (dC, dI) CL (TY cI cB cJ cZ) s) (hN : NW s) (hA : ∀ q : Nat, s.heap.size ≤ q → A q) (hRf : 207 ≤ R.frames) (hRl : 5516 ≤ R.locals) (hE : CE E tM tC kK kV A s) (hret : ∀ (r : Int32) (ad : Nat → Nat) (NN cells slots : Nat) (x : St) (H : Heap) (locs : List Loc) (pc : Nat) (ls : Array Slot), decode b_Asm_assembleN pc = .ok (.ireturn, 1) → (NN0 ≤ NN ∧ ∀ o : Nat, o < NN0 → ad o = ad0 o) → cells ≤ R.cells → slots ≤ R.slots → post r x → Wd dC dI cI cB cJ cZ ad stC kcC NN A x H → va_S A s.heap H locs → W p l e R s m args below meth c H locs cells slots Q (F0 m pc ls [.int r])) (hrec58 : ∀ (ad : Nat → Nat) (NN cells slots : Nat) (o : Nat) (l1 : Int32) (l3 : Nat) (l4 : Int32) (kb : Nat) (nb : Nat) (x : St) (H : Heap) (locs : List Loc) (ls : Array Slot), (152 ≤ NN) → (NN0 ≤ NN ∧ ∀ o : Nat, o < NN0 → ad o = ad0 o) → (cells + kb ≤ R.cells) → (slots + nb ≤ R.slots) → (o < NN ∧ kcC o = 11) → (l3 < NN ∧ kcC l3 = 3) → rec58 o l1 l3 l4 kb nb x → Wd dC dI cI cB cJ cZ ad stC kcC NN A x H → va_S A s.heap H locs → lv_has ls 8 [(0, .ref (ad o)), (1, .int l1), (2, .null), (3, .ref (ad l3)), (4, .int l4)] → W p l e R s m args below meth c H locs cells slots Q (F0 m 58 ls [])) (hrec111 : ∀ (ad : Nat → Nat) (NN cells slots : Nat) (o : Nat) (l1 : Int32) (l3 : Nat) (l4 : Int32) (l5 : Int32) (l6 : Int32) (l7 : Int32) (kb : Nat) (nb : Nat) (x : St) (H : Heap) (locs : List Loc) (ls : Array Slot), (152 ≤ NN) → (NN0 ≤ NN ∧ ∀ o : Nat, o < NN0 → ad o = ad0 o) → (cells + kb ≤ R.cells) → (slots + nb ≤ R.slots) → (o < NN ∧ kcC o = 11) → (l3 < NN ∧ kcC l3 = 3) → rec111 o l1 l3 l4 l5 l6 l7 kb nb x → Wd dC dI cI cB cJ cZ ad stC kcC NN A x H → va_S A s.heap H locs → lv_has ls 8 [(0, .ref (ad o)), (1, .int l1), (2, .null), (3, .ref (ad l3)), (4, .int l4), (5, .int l5), (6, .int l6), (7, .int l7)] → W p l e R s m args below meth c H locs cells slots Q (F0 m 111 ls [])) : ∀ (ad : Nat → Nat) (NN cells slots : Nat) (o : Nat) (l1 : Int32) (l3 : Nat) (l4 : Int32) (l5 : Int32) (l6 : Int32) (l7 : Int32) (kb : Nat) (nb : Nat) (x : St) (H : Heap) (locs : List Loc) (ls : Array Slot), (152 ≤ NN) → (NN0 ≤ NN ∧ ∀ o : Nat, o < NN0 → ad o = ad0 o) → (cells + kb ≤ R.cells) → (slots + nb ≤ R.slots) → (o < NN ∧ kcC o = 11) → (l3 < NN ∧ kcC l3 = 3) → j_Asm_assembleN_111 post rec58 rec111 o l1 l3 l4 l5 l6 l7 kb nb x → Wd dC dI cI cB cJ cZ ad stC kcC NN A x H → va_S A s.heap H locs → lv_has ls 8 [(0, .ref (ad o)), (1, .int l1), (2, .null), (3, .ref (ad l3)), (4, .int l4), (5, .int l5), (6, .int l6), (7, .int l7)] → W p l e R s m args below meth c H locs cells slots Q (F0 m 111 ls []) := by
  intro ad NN cells slots o l1 l3 l4 l5 l6 l7 kb nb x H locs ls hNN hag hRc hRs fo fl3 hw hW hS hl
  unfold j_Asm_assembleN_111 at hw
  refine lv_iload hx hb d_Asm_assemble_111 (lv_at hl 7 rfl) ?_
  refine lv_bipush (v := 16) hx hb d_Asm_assemble_113 (by decide) ?_
  refine lv_icmp_gt (tgt := 148) hx hb d_Asm_assemble_115 (by decide) (fun c1 => ?_) (fun c1 => ?_)
  · have hw := hw.1 c1
    exact t_Asm_assembleN_148 hx hb hml hown hT hK hN hA hRf hRl hE hret hrec58 ad NN cells slots o l1 l3 l4 l5 l6 l7 kb nb x H locs ls hNN hag hRc hRs fo fl3 hw hW hS (lv_sub hl [0, 1, 2, 3, 4, 5, 6, 7] rfl)
  · have hw := hw.2 c1
    refine lv_iload hx hb d_Asm_assemble_118 (lv_at hl 6 rfl) ?_
    refine lv_iconst (v := (-1)) hx hb d_Asm_assemble_120 (by decide) ?_
    refine lv_icmp_eq (tgt := 148) hx hb d_Asm_assemble_121 (by decide) (fun c2 => ?_) (fun c2 => ?_)
    · have hw := hw.1 c2
      exact t_Asm_assembleN_148 hx hb hml hown hT hK hN hA hRf hRl hE hret hrec58 ad NN cells slots o l1 l3 l4 l5 l6 l7 kb nb x H locs ls hNN hag hRc hRs fo fl3 hw hW hS (lv_sub hl [0, 1, 2, 3, 4, 5, 6, 7] rfl)
    · have hw := hw.2 c2
      refine lv_aload_n hx hb d_Asm_assemble_124 rfl (lv_at hl 0 rfl) ?_
      refine w_getf (q := (stC o 3)) (k := 3) (t := 11) (C := R_Asm) (T := F_Asm) (N := 4) hx hb hT hown hK hW fo.1 fo.2 (by decide) in_Asm rfl rfl (by decide) rfl fr_Asm_3 w_3_225 d_Asm_assemble_125 rfl ?_
      refine lv_iload hx hb d_Asm_assemble_128 (lv_at hl 6 rfl) ?_
      refine lv_iload hx hb d_Asm_assemble_130 (lv_at hl 4 rfl) ?_
      obtain ⟨hi, hw⟩ := hw
      refine w_iast (o := (stC o 3)) hx hb hK hW hS (st_ty hNN fo.1 fo.2 rfl).1 (st_ty hNN fo.1 fo.2 rfl).2 hi d_Asm_assemble_132 (fun H locs hW hS => ?_)
      obtain ⟨x3, ex3⟩ : ∃ y : St, y = setA x (stC o 3) l6 l4 := ⟨_, rfl⟩
      rw [← ex3] at hW
      have hw := hw x3 ex3
      refine lv_aload_n hx hb d_Asm_assemble_133 rfl (lv_at hl 3 rfl) ?_
      refine w_getf (q := (stC l3 4)) (k := 4) (t := 3) (C := R_Sch) (T := F_Sch) (N := 13) hx hb hT hown hK hW fl3.1 fl3.2 (by decide) in_Sch rfl rfl (by decide) rfl fr_Sch_4 w_1_154 d_Asm_assemble_134 rfl ?_
      refine lv_iload hx hb d_Asm_assemble_137 (lv_at hl 6 rfl) ?_
      obtain ⟨hi, hw⟩ := hw
      refine w_iald (o := (stC l3 4)) hx hb hK hW (st_ty hNN fl3.1 fl3.2 rfl).1 (st_ty hNN fl3.1 fl3.2 rfl).2 hi d_Asm_assemble_139 ?_
      refine lv_topi (fun v4 ev4 => ?_)
      have hw := hw v4 ev4
      refine lv_istore (lv' := [(6, .int v4), (0, .ref (ad o)), (1, .int l1), (2, .null), (3, .ref (ad l3)), (4, .int l4), (5, .int l5), (7, .int l7)]) hx hb d_Asm_assemble_140 hl (by decide) rfl (fun ls hl => ?_)
      refine lv_iinc (v := (l7 + 1)) (lv' := [(7, .int (l7 + 1)), (6, .int v4), (0, .ref (ad o)), (1, .int l1), (2, .null), (3, .ref (ad l3)), (4, .int l4), (5, .int l5)]) hx hb d_Asm_assemble_142 hl (k := 7) rfl rfl (by decide) rfl (fun ls hl => ?_)
      refine lv_goto (tgt := 111) hx hb d_Asm_assemble_145 (by decide) ?_
      exact hrec111 ad NN cells slots o l1 l3 l4 l5 v4 (l7 + 1) kb nb x3 H locs ls hNN hag hRc hRs fo fl3 hw hW hS (lv_sub hl [2, 3, 4, 5, 6, 7, 1, 0] rfl)
set_option maxHeartbeats 4000000 in
set_option maxRecDepth 100000 in
theorem tl_Asm_assembleN_111 {p : Program} {l : Launch} {e : Env} {R : Room} {s : State} {m : MethodId} {args : Array Value} {below : List Frame} {meth : Method} {c : Code} {Q : State → Prop} {dC : Nat → ClassId} {dI : Nat → Nat → Nat} {cI cB cJ cZ : ClassId} {A : Nat → Prop} {E : Heap} {tM tC : Nat} {kK kV : Nat → Nat} {ad0 : Nat → Nat} {NN0 : Nat} {post : Int32 → St → Prop} {rec58 : Nat → Int32 → Nat → Int32 → Nat → Nat → St → Prop} (hx : p.tables.exec = Jvm.exec) (hb : c.code = b_Asm_assembleN) (hml : c.maxLocals = 8) (hown : s.vm.findClass R_Asm = some m.cls) (hT : ∀ w ∈ TG, w.before args s = true) (hK : va_K (dC, dI) CL (TY cI cB cJ cZ) s) (hN : NW s) (hA : ∀ q : Nat, s.heap.size ≤ q → A q) (hRf : 207 ≤ R.frames) (hRl : 5516 ≤ R.locals) (hE : CE E tM tC kK kV A s) (hret : ∀ (r : Int32) (ad : Nat → Nat) (NN cells slots : Nat) (x : St) (H : Heap) (locs : List Loc) (pc : Nat) (ls : Array Slot), decode b_Asm_assembleN pc = .ok (.ireturn, 1) → (NN0 ≤ NN ∧ ∀ o : Nat, o < NN0 → ad o = ad0 o) → cells ≤ R.cells → slots ≤ R.slots → post r x → Wd dC dI cI cB cJ cZ ad stC kcC NN A x H → va_S A s.heap H locs → W p l e R s m args below meth c H locs cells slots Q (F0 m pc ls [.int r])) (hrec58 : ∀ (ad : Nat → Nat) (NN cells slots : Nat) (o : Nat) (l1 : Int32) (l3 : Nat) (l4 : Int32) (kb : Nat) (nb : Nat) (x : St) (H : Heap) (locs : List Loc) (ls : Array Slot), (152 ≤ NN) → (NN0 ≤ NN ∧ ∀ o : Nat, o < NN0 → ad o = ad0 o) → (cells + kb ≤ R.cells) → (slots + nb ≤ R.slots) → (o < NN ∧ kcC o = 11) → (l3 < NN ∧ kcC l3 = 3) → rec58 o l1 l3 l4 kb nb x → Wd dC dI cI cB cJ cZ ad stC kcC NN A x H → va_S A s.heap H locs → lv_has ls 8 [(0, .ref (ad o)), (1, .int l1), (2, .null), (3, .ref (ad l3)), (4, .int l4)] → W p l e R s m args below meth c H locs cells slots Q (F0 m 58 ls [])) : ∀ n : Nat, ∀ (ad : Nat → Nat) (NN cells slots : Nat) (o : Nat) (l1 : Int32) (l3 : Nat) (l4 : Int32) (l5 : Int32) (l6 : Int32) (l7 : Int32) (kb : Nat) (nb : Nat) (x : St) (H : Heap) (locs : List Loc) (ls : Array Slot), (152 ≤ NN) → (NN0 ≤ NN ∧ ∀ o : Nat, o < NN0 → ad o = ad0 o) → (cells + kb ≤ R.cells) → (slots + nb ≤ R.slots) → (o < NN ∧ kcC o = 11) → (l3 < NN ∧ kcC l3 = 3) → wl_Asm_assembleN_111 post rec58 n o l1 l3 l4 l5 l6 l7 kb nb x → Wd dC dI cI cB cJ cZ ad stC kcC NN A x H → va_S A s.heap H locs → lv_has ls 8 [(0, .ref (ad o)), (1, .int l1), (2, .null), (3, .ref (ad l3)), (4, .int l4), (5, .int l5), (6, .int l6), (7, .int l7)] → W p l e R s m args below meth c H locs cells slots Q (F0 m 111 ls []) := by
  intro n
  induction n with
  | zero => intro ad NN cells slots o l1 l3 l4 l5 l6 l7 kb nb x H locs ls hNN hag hRc hRs fo fl3 hw; exact hw.elim
  | succ n ih => intro ad NN cells slots o l1 l3 l4 l5 l6 l7 kb nb x H locs ls hNN hag hRc hRs fo fl3 hw hW hS hl; exact t_Asm_assembleN_111 hx hb hml hown hT hK hN hA hRf hRl hE hret hrec58 ih ad NN cells slots o l1 l3 l4 l5 l6 l7 kb nb x H locs ls hNN hag hRc hRs fo fl3 hw hW hS hl
set_option maxRecDepth 100000 in
set_option maxHeartbeats 4000000 in
set_option maxRecDepth 100000 in
theorem t_Asm_assembleN_106 {p : Program} {l : Launch} {e : Env} {R : Room} {s : State} {m : MethodId} {args : Array Value} {below : List Frame} {meth : Method} {c : Code} {Q : State → Prop} {dC : Nat → ClassId} {dI : Nat → Nat → Nat} {cI cB cJ cZ : ClassId} {A : Nat → Prop} {E : Heap} {tM tC : Nat} {kK kV : Nat → Nat} {ad0 : Nat → Nat} {NN0 : Nat} {post : Int32 → St → Prop} {rec58 : Nat → Int32 → Nat → Int32 → Nat → Nat → St → Prop} (hx : p.tables.exec = Jvm.exec) (hb : c.code = b_Asm_assembleN) (hml : c.maxLocals = 8) (hown : s.vm.findClass R_Asm = some m.cls) (hT : ∀ w ∈ TG, w.before args s = true) (hK : va_K (dC, dI) CL (TY cI cB cJ cZ) s) (hN : NW s) (hA : ∀ q : Nat, s.heap.size ≤ q → A q) (hRf : 207 ≤ R.frames) (hRl : 5516 ≤ R.locals) (hE : CE E tM tC kK kV A s) (hret : ∀ (r : Int32) (ad : Nat → Nat) (NN cells slots : Nat) (x : St) (H : Heap) (locs : List Loc) (pc : Nat) (ls : Array Slot), decode b_Asm_assembleN pc = .ok (.ireturn, 1) → (NN0 ≤ NN ∧ ∀ o : Nat, o < NN0 → ad o = ad0 o) → cells ≤ R.cells → slots ≤ R.slots → post r x → Wd dC dI cI cB cJ cZ ad stC kcC NN A x H → va_S A s.heap H locs → W p l e R s m args below meth c H locs cells slots Q (F0 m pc ls [.int r])) (hrec58 : ∀ (ad : Nat → Nat) (NN cells slots : Nat) (o : Nat) (l1 : Int32) (l3 : Nat) (l4 : Int32) (kb : Nat) (nb : Nat) (x : St) (H : Heap) (locs : List Loc) (ls : Array Slot), (152 ≤ NN) → (NN0 ≤ NN ∧ ∀ o : Nat, o < NN0 → ad o = ad0 o) → (cells + kb ≤ R.cells) → (slots + nb ≤ R.slots) → (o < NN ∧ kcC o = 11) → (l3 < NN ∧ kcC l3 = 3) → rec58 o l1 l3 l4 kb nb x → Wd dC dI cI cB cJ cZ ad stC kcC NN A x H → va_S A s.heap H locs → lv_has ls 8 [(0, .ref (ad o)), (1, .int l1), (2, .null), (3, .ref (ad l3)), (4, .int l4)] → W p l e R s m args below meth c H locs cells slots Q (F0 m 58 ls [])) : ∀ (ad : Nat → Nat) (NN cells slots : Nat) (o : Nat) (l1 : Int32) (l3 : Nat) (l4 : Int32) (l5 : Int32) (s0 : Int32) (kb : Nat) (nb : Nat) (x : St) (H : Heap) (locs : List Loc) (ls : Array Slot), (152 ≤ NN) → (NN0 ≤ NN ∧ ∀ o : Nat, o < NN0 → ad o = ad0 o) → (cells + kb ≤ R.cells) → (slots + nb ≤ R.slots) → (o < NN ∧ kcC o = 11) → (l3 < NN ∧ kcC l3 = 3) → j_Asm_assembleN_106 post rec58 o l1 l3 l4 l5 s0 kb nb x → Wd dC dI cI cB cJ cZ ad stC kcC NN A x H → va_S A s.heap H locs → lv_has ls 8 [(0, .ref (ad o)), (1, .int l1), (2, .null), (3, .ref (ad l3)), (4, .int l4), (5, .int l5)] → W p l e R s m args below meth c H locs cells slots Q (F0 m 106 ls [.int s0]) := by
  intro ad NN cells slots o l1 l3 l4 l5 s0 kb nb x H locs ls hNN hag hRc hRs fo fl3 hw hW hS hl
  unfold j_Asm_assembleN_106 at hw
  refine lv_istore (lv' := [(6, .int s0), (0, .ref (ad o)), (1, .int l1), (2, .null), (3, .ref (ad l3)), (4, .int l4), (5, .int l5)]) hx hb d_Asm_assemble_106 hl (by decide) rfl (fun ls hl => ?_)
  refine lv_iconst (v := 0) hx hb d_Asm_assemble_108 (by decide) ?_
  refine lv_istore (lv' := [(7, .int 0), (6, .int s0), (0, .ref (ad o)), (1, .int l1), (2, .null), (3, .ref (ad l3)), (4, .int l4), (5, .int l5)]) hx hb d_Asm_assemble_109 hl (by decide) rfl (fun ls hl => ?_)
  obtain ⟨n, hw⟩ := hw
  exact tl_Asm_assembleN_111 hx hb hml hown hT hK hN hA hRf hRl hE hret hrec58 n ad NN cells slots o l1 l3 l4 l5 s0 0 kb nb x H locs ls hNN hag hRc hRs fo fl3 hw hW hS (lv_sub hl [2, 3, 4, 5, 6, 7, 1, 0] rfl)
set_option maxRecDepth 100000 in
set_option maxHeartbeats 4000000 in
set_option maxRecDepth 100000 in
theorem t_Asm_assembleN_100 {p : Program} {l : Launch} {e : Env} {R : Room} {s : State} {m : MethodId} {args : Array Value} {below : List Frame} {meth : Method} {c : Code} {Q : State → Prop} {dC : Nat → ClassId} {dI : Nat → Nat → Nat} {cI cB cJ cZ : ClassId} {A : Nat → Prop} {E : Heap} {tM tC : Nat} {kK kV : Nat → Nat} {ad0 : Nat → Nat} {NN0 : Nat} {post : Int32 → St → Prop} {rec58 : Nat → Int32 → Nat → Int32 → Nat → Nat → St → Prop} (hx : p.tables.exec = Jvm.exec) (hb : c.code = b_Asm_assembleN) (hml : c.maxLocals = 8) (hown : s.vm.findClass R_Asm = some m.cls) (hT : ∀ w ∈ TG, w.before args s = true) (hK : va_K (dC, dI) CL (TY cI cB cJ cZ) s) (hN : NW s) (hA : ∀ q : Nat, s.heap.size ≤ q → A q) (hRf : 207 ≤ R.frames) (hRl : 5516 ≤ R.locals) (hE : CE E tM tC kK kV A s) (hret : ∀ (r : Int32) (ad : Nat → Nat) (NN cells slots : Nat) (x : St) (H : Heap) (locs : List Loc) (pc : Nat) (ls : Array Slot), decode b_Asm_assembleN pc = .ok (.ireturn, 1) → (NN0 ≤ NN ∧ ∀ o : Nat, o < NN0 → ad o = ad0 o) → cells ≤ R.cells → slots ≤ R.slots → post r x → Wd dC dI cI cB cJ cZ ad stC kcC NN A x H → va_S A s.heap H locs → W p l e R s m args below meth c H locs cells slots Q (F0 m pc ls [.int r])) (hrec58 : ∀ (ad : Nat → Nat) (NN cells slots : Nat) (o : Nat) (l1 : Int32) (l3 : Nat) (l4 : Int32) (kb : Nat) (nb : Nat) (x : St) (H : Heap) (locs : List Loc) (ls : Array Slot), (152 ≤ NN) → (NN0 ≤ NN ∧ ∀ o : Nat, o < NN0 → ad o = ad0 o) → (cells + kb ≤ R.cells) → (slots + nb ≤ R.slots) → (o < NN ∧ kcC o = 11) → (l3 < NN ∧ kcC l3 = 3) → rec58 o l1 l3 l4 kb nb x → Wd dC dI cI cB cJ cZ ad stC kcC NN A x H → va_S A s.heap H locs → lv_has ls 8 [(0, .ref (ad o)), (1, .int l1), (2, .null), (3, .ref (ad l3)), (4, .int l4)] → W p l e R s m args below meth c H locs cells slots Q (F0 m 58 ls [])) : ∀ (ad : Nat → Nat) (NN cells slots : Nat) (o : Nat) (l1 : Int32) (l3 : Nat) (l4 : Int32) (l5 : Int32) (kb : Nat) (nb : Nat) (x : St) (H : Heap) (locs : List Loc) (ls : Array Slot), (152 ≤ NN) → (NN0 ≤ NN ∧ ∀ o : Nat, o < NN0 → ad o = ad0 o) → (cells + kb ≤ R.cells) → (slots + nb ≤ R.slots) → (o < NN ∧ kcC o = 11) → (l3 < NN ∧ kcC l3 = 3) → j_Asm_assembleN_100 post rec58 o l1 l3 l4 l5 kb nb x → Wd dC dI cI cB cJ cZ ad stC kcC NN A x H → va_S A s.heap H locs → lv_has ls 8 [(0, .ref (ad o)), (1, .int l1), (2, .null), (3, .ref (ad l3)), (4, .int l4), (5, .int l5)] → W p l e R s m args below meth c H locs cells slots Q (F0 m 100 ls []) := by
  intro ad NN cells slots o l1 l3 l4 l5 kb nb x H locs ls hNN hag hRc hRs fo fl3 hw hW hS hl
  unfold j_Asm_assembleN_100 at hw
  refine lv_iload hx hb d_Asm_assemble_100 (lv_at hl 5 rfl) ?_
  refine lv_goto (tgt := 106) hx hb d_Asm_assemble_102 (by decide) ?_
  exact t_Asm_assembleN_106 hx hb hml hown hT hK hN hA hRf hRl hE hret hrec58 ad NN cells slots o l1 l3 l4 l5 l5 kb nb x H locs ls hNN hag hRc hRs fo fl3 hw hW hS (lv_sub hl [0, 1, 2, 3, 4, 5] rfl)
set_option maxRecDepth 100000 in
set_option maxHeartbeats 4000000 in
set_option maxRecDepth 100000 in
theorem t_Asm_assembleN_58 {p : Program} {l : Launch} {e : Env} {R : Room} {s : State} {m : MethodId} {args : Array Value} {below : List Frame} {meth : Method} {c : Code} {Q : State → Prop} {dC : Nat → ClassId} {dI : Nat → Nat → Nat} {cI cB cJ cZ : ClassId} {A : Nat → Prop} {E : Heap} {tM tC : Nat} {kK kV : Nat → Nat} {ad0 : Nat → Nat} {NN0 : Nat} {post : Int32 → St → Prop} {rec58 : Nat → Int32 → Nat → Int32 → Nat → Nat → St → Prop} (hx : p.tables.exec = Jvm.exec) (hb : c.code = b_Asm_assembleN) (hml : c.maxLocals = 8) (hown : s.vm.findClass R_Asm = some m.cls) (hT : ∀ w ∈ TG, w.before args s = true) (hK : va_K (dC, dI) CL (TY cI cB cJ cZ) s) (hN : NW s) (hA : ∀ q : Nat, s.heap.size ≤ q → A q) (hRf : 207 ≤ R.frames) (hRl : 5516 ≤ R.locals) (hE : CE E tM tC kK kV A s) (hret : ∀ (r : Int32) (ad : Nat → Nat) (NN cells slots : Nat) (x : St) (H : Heap) (locs : List Loc) (pc : Nat) (ls : Array Slot), decode b_Asm_assembleN pc = .ok (.ireturn, 1) → (NN0 ≤ NN ∧ ∀ o : Nat, o < NN0 → ad o = ad0 o) → cells ≤ R.cells → slots ≤ R.slots → post r x → Wd dC dI cI cB cJ cZ ad stC kcC NN A x H → va_S A s.heap H locs → W p l e R s m args below meth c H locs cells slots Q (F0 m pc ls [.int r])) (hrec58 : ∀ (ad : Nat → Nat) (NN cells slots : Nat) (o : Nat) (l1 : Int32) (l3 : Nat) (l4 : Int32) (kb : Nat) (nb : Nat) (x : St) (H : Heap) (locs : List Loc) (ls : Array Slot), (152 ≤ NN) → (NN0 ≤ NN ∧ ∀ o : Nat, o < NN0 → ad o = ad0 o) → (cells + kb ≤ R.cells) → (slots + nb ≤ R.slots) → (o < NN ∧ kcC o = 11) → (l3 < NN ∧ kcC l3 = 3) → rec58 o l1 l3 l4 kb nb x → Wd dC dI cI cB cJ cZ ad stC kcC NN A x H → va_S A s.heap H locs → lv_has ls 8 [(0, .ref (ad o)), (1, .int l1), (2, .null), (3, .ref (ad l3)), (4, .int l4)] → W p l e R s m args below meth c H locs cells slots Q (F0 m 58 ls [])) : ∀ (ad : Nat → Nat) (NN cells slots : Nat) (o : Nat) (l1 : Int32) (l3 : Nat) (l4 : Int32) (kb : Nat) (nb : Nat) (x : St) (H : Heap) (locs : List Loc) (ls : Array Slot), (152 ≤ NN) → (NN0 ≤ NN ∧ ∀ o : Nat, o < NN0 → ad o = ad0 o) → (cells + kb ≤ R.cells) → (slots + nb ≤ R.slots) → (o < NN ∧ kcC o = 11) → (l3 < NN ∧ kcC l3 = 3) → j_Asm_assembleN_58 post rec58 o l1 l3 l4 kb nb x → Wd dC dI cI cB cJ cZ ad stC kcC NN A x H → va_S A s.heap H locs → lv_has ls 8 [(0, .ref (ad o)), (1, .int l1), (2, .null), (3, .ref (ad l3)), (4, .int l4)] → W p l e R s m args below meth c H locs cells slots Q (F0 m 58 ls []) := by
  intro ad NN cells slots o l1 l3 l4 kb nb x H locs ls hNN hag hRc hRs fo fl3 hw hW hS hl
  unfold j_Asm_assembleN_58 at hw
  refine lv_iload hx hb d_Asm_assemble_58 (lv_at hl 4 rfl) ?_
  refine lv_if_lt (tgt := 154) hx hb d_Asm_assemble_60 (by decide) (fun c5 => ?_) (fun c5 => ?_)
  · have hw := hw.1 c5
    refine lv_aload_n hx hb d_Asm_assemble_154 rfl (lv_at hl 0 rfl) ?_
    refine lv_iconst (v := (-1)) hx hb d_Asm_assemble_155 (by decide) ?_
    refine lv_iconst (v := 0) hx hb d_Asm_assemble_156 (by decide) ?_
    obtain ⟨k6, n7, k8, n9, ek6, en7, hw⟩ := hw
    have hF := hW.free hS hA
    refine va_callv (va_runV (C := R_Asm) (As := [.int (-1), .int 0]) (rest := []) ⟨hx, hb, hml, hown, hT⟩ (k_Asm_writeGroup l dC dI cI cB cJ cZ ad NN E tM tC kK kV hNN H.size o (-1) 0 k6 n7 x fo hw) ⟨callB_of 2 hT (gwt_in w_7_89) rfl rfl rfl (hT _ w_1_14) (hT _ w_7_86) (by decide +kernel) ⟨Nat.le_trans (Nat.le_of_ble_eq_true rfl) hRf, Nat.le_trans (Nat.le_of_ble_eq_true rfl) hRl⟩, hT _ w_7_88, hT _ ws_62⟩ ⟨PVc.blind, va_recv hK hW.1 (ci := 11) (q0 := o) rfl (pic_obj fo.1 fo.2 (by decide)), PVc.at _ hW hK hN hE hS hF⟩ rfl rfl hl.1 rfl (lv_room (Nat.le_of_ble_eq_true rfl)) d_Asm_assemble_157 ⟨show cells + k6 ≤ R.cells by omega, show slots + n7 ≤ R.slots by omega⟩) hS (fun q _ h => hF q h) hF (fun  x10 t H locs ht hvm hw hB hz1 hk1 hS => ?_)
    obtain ⟨x10, ad, NN⟩ := x10
    obtain ⟨hB, hle, hg⟩ := hB
    try dsimp only at hw hB hle hg
    have hW := Wd.back hB ht hF
    rw [← hg o fo.1] at hl
    rw [← hg l3 fl3.1] at hl
    have fl3 : l3 < NN ∧ kcC l3 = 3 := ⟨Nat.lt_of_lt_of_le fl3.1 hle, fl3.2⟩
    have fo : o < NN ∧ kcC o = 11 := ⟨Nat.lt_of_lt_of_le fo.1 hle, fo.2⟩
    have hag : NN0 ≤ NN ∧ ∀ o : Nat, o < NN0 → ad o = ad0 o := ⟨Nat.le_trans hag.1 hle, fun o h => (hg o (Nat.lt_of_lt_of_le h hag.1)).trans (hag.2 o h)⟩
    have hNN : 152 ≤ NN := Nat.le_trans hNN hle
    clear hg hle
    obtain ⟨cells, ec⟩ : ∃ z, z = cells + k6 := ⟨_, rfl⟩
    obtain ⟨slots, es⟩ : ∃ z, z = slots + n7 := ⟨_, rfl⟩
    first | rw [← ec, ← es] | rw [Nat.add_zero, Nat.add_zero, ← ec, ← es]
    have hRc : cells + k8 ≤ R.cells := by omega
    have hRs : slots + n9 ≤ R.slots := by omega
    clear ec es hB ht hF hz1 hk1 hvm ek6 en7
    refine lv_aload_n hx hb d_Asm_assemble_160 rfl (lv_at hl 0 rfl) ?_
    refine w_getf (q := (stC o 0)) (k := 0) (t := 11) (C := R_Asm) (T := F_Asm) (N := 4) hx hb hT hown hK hW fo.1 fo.2 (by decide) in_Asm rfl rfl (by decide) rfl fr_Asm_0 w_3_221 d_Asm_assemble_161 rfl ?_
    refine w_geti (k := 2) (t := 1) (C := R_Snk) (T := F_Snk) (N := 7) hx hb hT hown hK hW (st_ty hNN fo.1 fo.2 rfl).1 (st_ty hNN fo.1 fo.2 rfl).2 (by decide) in_Snk rfl rfl (by decide) rfl fr_Snk_2 w_1_48 d_Asm_assemble_164 ?_
    refine lv_if_eq (tgt := 179) hx hb d_Asm_assemble_167 (by decide) (fun c11 => ?_) (fun c11 => ?_)
    · have hw := hw.1 c11
      refine lv_aload_n hx hb d_Asm_assemble_179 rfl (lv_at hl 0 rfl) ?_
      refine w_getf (q := (stC o 0)) (k := 0) (t := 11) (C := R_Asm) (T := F_Asm) (N := 4) hx hb hT hown hK hW fo.1 fo.2 (by decide) in_Asm rfl rfl (by decide) rfl fr_Asm_0 w_3_221 d_Asm_assemble_180 rfl ?_
      refine w_geti (k := 1) (t := 1) (C := R_Snk) (T := F_Snk) (N := 7) hx hb hT hown hK hW (st_ty hNN fo.1 fo.2 rfl).1 (st_ty hNN fo.1 fo.2 rfl).2 (by decide) in_Snk rfl rfl (by decide) rfl fr_Snk_1 w_1_45 d_Asm_assemble_183 ?_
      exact hret (fI x10 (stC o 0) 1) ad NN cells slots x10 H locs 186 ls d_Asm_assemble_186 hag (Nat.le_trans (Nat.le_add_right _ _) hRc) (Nat.le_trans (Nat.le_add_right _ _) hRs) hw hW hS
    · have hw := hw.2 c11
      refine lv_aload_n hx hb d_Asm_assemble_170 rfl (lv_at hl 0 rfl) ?_
      refine w_getf (q := (stC o 0)) (k := 0) (t := 11) (C := R_Asm) (T := F_Asm) (N := 4) hx hb hT hown hK hW fo.1 fo.2 (by decide) in_Asm rfl rfl (by decide) rfl fr_Asm_0 w_3_221 d_Asm_assemble_171 rfl ?_
      have hF := hW.free hS hA
      refine va_callv (va_runV (C := R_Snk) (As := []) (rest := []) ⟨hx, hb, hml, hown, hT⟩ (k_Snk_forget l dC dI cI cB cJ cZ ad NN E tM tC kK kV hNN H.size (stC o 0) x10 (st_ty hNN fo.1 fo.2 rfl) hw) ⟨callB_of 0 hT (gwt_in w_4_81) rfl rfl rfl (hT _ w_1_2) (hT _ w_7_80) (by decide +kernel) ⟨Nat.le_trans (Nat.le_of_ble_eq_true rfl) hRf, Nat.le_trans (Nat.le_of_ble_eq_true rfl) hRl⟩, hT _ w_4_79, hT _ w_4_80⟩ ⟨PVc.blind, va_recv hK hW.1 (ci := 1) (q0 := (stC o 0)) rfl (pic_obj (st_ty hNN fo.1 fo.2 rfl).1 (st_ty hNN fo.1 fo.2 rfl).2 (by decide)), PVc.at _ hW hK hN hE hS hF⟩ rfl rfl hl.1 rfl (lv_room (Nat.le_of_ble_eq_true rfl)) d_Asm_assemble_174 ⟨(Nat.le_trans (Nat.le_add_right _ _) hRc), (Nat.le_trans (Nat.le_add_right _ _) hRs)⟩) hS (fun q _ h => hF q h) hF (fun  x12 t H locs ht hvm hw hB hz1 hk1 hS => ?_)
      have hW := Wd.back hB ht hF
      clear hB ht hF hz1 hk1 hvm
      refine lv_iconst (v := (-1)) hx hb d_Asm_assemble_177 (by decide) ?_
      exact hret (-1) ad NN cells slots x12 H locs 178 ls d_Asm_assemble_178 hag (Nat.le_trans (Nat.le_add_right _ _) hRc) (Nat.le_trans (Nat.le_add_right _ _) hRs) hw hW hS
  · have hw := hw.2 c5
    refine lv_aload_n hx hb d_Asm_assemble_63 rfl (lv_at hl 0 rfl) ?_
    refine w_getf (q := (stC o 2)) (k := 2) (t := 11) (C := R_Asm) (T := F_Asm) (N := 4) hx hb hT hown hK hW fo.1 fo.2 (by decide) in_Asm rfl rfl (by decide) rfl fr_Asm_2 w_3_224 d_Asm_assemble_64 rfl ?_
    refine lv_iload hx hb d_Asm_assemble_67 (lv_at hl 4 rfl) ?_
    refine lv_aload_n hx hb d_Asm_assemble_69 rfl (lv_at hl 0 rfl) ?_
    refine w_getf (q := (stC o 1)) (k := 1) (t := 11) (C := R_Asm) (T := F_Asm) (N := 4) hx hb hT hown hK hW fo.1 fo.2 (by decide) in_Asm rfl rfl (by decide) rfl fr_Asm_1 w_3_223 d_Asm_assemble_70 rfl ?_
    refine lv_iload_n hx hb d_Asm_assemble_73 rfl (lv_at hl 1 rfl) ?_
    refine lv_iload hx hb d_Asm_assemble_74 (lv_at hl 4 rfl) ?_
    have hF := hW.free hS hA
    refine va_calli (va_runV (C := R_Vlt) (As := [.int l1, .int l4]) (rest := [.int l4, .ref (ad (stC o 2))]) ⟨hx, hb, hml, hown, hT⟩ (k_Vlt_entryOf l dC dI cI cB cJ cZ ad NN E tM tC kK kV hNN H.size (stC o 1) l1 l4 x (st_ty hNN fo.1 fo.2 rfl) hw) ⟨callB_of 2 hT (gwt_in w_7_85) rfl rfl rfl (hT _ w_1_9) (hT _ w_7_82) (by decide +kernel) ⟨Nat.le_trans (Nat.le_of_ble_eq_true rfl) hRf, Nat.le_trans (Nat.le_of_ble_eq_true rfl) hRl⟩, hT _ w_7_83, hT _ w_7_84⟩ ⟨PVc.blind, va_recv hK hW.1 (ci := 6) (q0 := (stC o 1)) rfl (pic_obj (st_ty hNN fo.1 fo.2 rfl).1 (st_ty hNN fo.1 fo.2 rfl).2 (by decide)), PVc.at _ hW hK hN hE hS hF⟩ rfl rfl hl.1 rfl (lv_room (Nat.le_of_ble_eq_true rfl)) d_Asm_assemble_76 ⟨(Nat.le_trans (Nat.le_add_right _ _) hRc), (Nat.le_trans (Nat.le_add_right _ _) hRs)⟩) hS (fun q _ h => hF q h) hF (fun r14 x13 t H locs ht hvm hw hB hz1 hk1 hS => ?_)
    have hW := Wd.back hB ht hF
    clear hB ht hF hz1 hk1 hvm
    obtain ⟨hi, hw⟩ := hw
    refine w_iast (o := (stC o 2)) hx hb hK hW hS (st_ty hNN fo.1 fo.2 rfl).1 (st_ty hNN fo.1 fo.2 rfl).2 hi d_Asm_assemble_79 (fun H locs hW hS => ?_)
    obtain ⟨x15, ex15⟩ : ∃ y : St, y = setA x13 (stC o 2) l4 r14 := ⟨_, rfl⟩
    rw [← ex15] at hW
    have hw := hw x15 ex15
    refine lv_aload_n hx hb d_Asm_assemble_80 rfl (lv_at hl 3 rfl) ?_
    refine w_getf (q := (stC l3 10)) (k := 10) (t := 3) (C := R_Sch) (T := F_Sch) (N := 13) hx hb hT hown hK hW fl3.1 fl3.2 (by decide) in_Sch rfl rfl (by decide) rfl fr_Sch_10 w_1_179 d_Asm_assemble_81 rfl ?_
    refine lv_iload hx hb d_Asm_assemble_84 (lv_at hl 4 rfl) ?_
    obtain ⟨hi, hw⟩ := hw
    refine w_iald (o := (stC l3 10)) hx hb hK hW (st_ty hNN fl3.1 fl3.2 rfl).1 (st_ty hNN fl3.1 fl3.2 rfl).2 hi d_Asm_assemble_86 ?_
    refine lv_topi (fun v16 ev16 => ?_)
    have hw := hw v16 ev16
    refine lv_istore (lv' := [(5, .int v16), (0, .ref (ad o)), (1, .int l1), (2, .null), (3, .ref (ad l3)), (4, .int l4)]) hx hb d_Asm_assemble_87 hl (by decide) rfl (fun ls hl => ?_)
    refine lv_aload_nN hx hb d_Asm_assemble_89 rfl (lv_at hl 3 rfl) ?_
    refine lv_ifnullN (tgt := 100) hx hb d_Asm_assemble_90 (by decide) ?_
    exact t_Asm_assembleN_100 hx hb hml hown hT hK hN hA hRf hRl hE hret hrec58 ad NN cells slots o l1 l3 l4 v16 kb nb x15 H locs ls hNN hag hRc hRs fo fl3 hw hW hS (lv_sub hl [1, 2, 3, 4, 5, 0] rfl)
set_option maxHeartbeats 4000000 in
set_option maxRecDepth 100000 in
theorem tl_Asm_assembleN_58 {p : Program} {l : Launch} {e : Env} {R : Room} {s : State} {m : MethodId} {args : Array Value} {below : List Frame} {meth : Method} {c : Code} {Q : State → Prop} {dC : Nat → ClassId} {dI : Nat → Nat → Nat} {cI cB cJ cZ : ClassId} {A : Nat → Prop} {E : Heap} {tM tC : Nat} {kK kV : Nat → Nat} {ad0 : Nat → Nat} {NN0 : Nat} {post : Int32 → St → Prop} (hx : p.tables.exec = Jvm.exec) (hb : c.code = b_Asm_assembleN) (hml : c.maxLocals = 8) (hown : s.vm.findClass R_Asm = some m.cls) (hT : ∀ w ∈ TG, w.before args s = true) (hK : va_K (dC, dI) CL (TY cI cB cJ cZ) s) (hN : NW s) (hA : ∀ q : Nat, s.heap.size ≤ q → A q) (hRf : 207 ≤ R.frames) (hRl : 5516 ≤ R.locals) (hE : CE E tM tC kK kV A s) (hret : ∀ (r : Int32) (ad : Nat → Nat) (NN cells slots : Nat) (x : St) (H : Heap) (locs : List Loc) (pc : Nat) (ls : Array Slot), decode b_Asm_assembleN pc = .ok (.ireturn, 1) → (NN0 ≤ NN ∧ ∀ o : Nat, o < NN0 → ad o = ad0 o) → cells ≤ R.cells → slots ≤ R.slots → post r x → Wd dC dI cI cB cJ cZ ad stC kcC NN A x H → va_S A s.heap H locs → W p l e R s m args below meth c H locs cells slots Q (F0 m pc ls [.int r]))  : ∀ n : Nat, ∀ (ad : Nat → Nat) (NN cells slots : Nat) (o : Nat) (l1 : Int32) (l3 : Nat) (l4 : Int32) (kb : Nat) (nb : Nat) (x : St) (H : Heap) (locs : List Loc) (ls : Array Slot), (152 ≤ NN) → (NN0 ≤ NN ∧ ∀ o : Nat, o < NN0 → ad o = ad0 o) → (cells + kb ≤ R.cells) → (slots + nb ≤ R.slots) → (o < NN ∧ kcC o = 11) → (l3 < NN ∧ kcC l3 = 3) → wl_Asm_assembleN_58 post n o l1 l3 l4 kb nb x → Wd dC dI cI cB cJ cZ ad stC kcC NN A x H → va_S A s.heap H locs → lv_has ls 8 [(0, .ref (ad o)), (1, .int l1), (2, .null), (3, .ref (ad l3)), (4, .int l4)] → W p l e R s m args below meth c H locs cells slots Q (F0 m 58 ls []) := by
  intro n
  induction n with
  | zero => intro ad NN cells slots o l1 l3 l4 kb nb x H locs ls hNN hag hRc hRs fo fl3 hw; exact hw.elim
  | succ n ih => intro ad NN cells slots o l1 l3 l4 kb nb x H locs ls hNN hag hRc hRs fo fl3 hw hW hS hl; exact t_Asm_assembleN_58 hx hb hml hown hT hK hN hA hRf hRl hE hret  ih ad NN cells slots o l1 l3 l4 kb nb x H locs ls hNN hag hRc hRs fo fl3 hw hW hS hl
set_option maxRecDepth 100000 in
set_option maxHeartbeats 4000000 in
set_option maxRecDepth 100000 in
theorem t_Asm_assembleN_32 {p : Program} {l : Launch} {e : Env} {R : Room} {s : State} {m : MethodId} {args : Array Value} {below : List Frame} {meth : Method} {c : Code} {Q : State → Prop} {dC : Nat → ClassId} {dI : Nat → Nat → Nat} {cI cB cJ cZ : ClassId} {A : Nat → Prop} {E : Heap} {tM tC : Nat} {kK kV : Nat → Nat} {ad0 : Nat → Nat} {NN0 : Nat} {post : Int32 → St → Prop} (hx : p.tables.exec = Jvm.exec) (hb : c.code = b_Asm_assembleN) (hml : c.maxLocals = 8) (hown : s.vm.findClass R_Asm = some m.cls) (hT : ∀ w ∈ TG, w.before args s = true) (hK : va_K (dC, dI) CL (TY cI cB cJ cZ) s) (hN : NW s) (hA : ∀ q : Nat, s.heap.size ≤ q → A q) (hRf : 207 ≤ R.frames) (hRl : 5516 ≤ R.locals) (hE : CE E tM tC kK kV A s) (hret : ∀ (r : Int32) (ad : Nat → Nat) (NN cells slots : Nat) (x : St) (H : Heap) (locs : List Loc) (pc : Nat) (ls : Array Slot), decode b_Asm_assembleN pc = .ok (.ireturn, 1) → (NN0 ≤ NN ∧ ∀ o : Nat, o < NN0 → ad o = ad0 o) → cells ≤ R.cells → slots ≤ R.slots → post r x → Wd dC dI cI cB cJ cZ ad stC kcC NN A x H → va_S A s.heap H locs → W p l e R s m args below meth c H locs cells slots Q (F0 m pc ls [.int r]))  : ∀ (ad : Nat → Nat) (NN cells slots : Nat) (o : Nat) (l1 : Int32) (kb : Nat) (nb : Nat) (x : St) (H : Heap) (locs : List Loc) (ls : Array Slot), (152 ≤ NN) → (NN0 ≤ NN ∧ ∀ o : Nat, o < NN0 → ad o = ad0 o) → (cells + kb ≤ R.cells) → (slots + nb ≤ R.slots) → (o < NN ∧ kcC o = 11) → j_Asm_assembleN_32 post o l1 kb nb x → Wd dC dI cI cB cJ cZ ad stC kcC NN A x H → va_S A s.heap H locs → lv_has ls 8 [(0, .ref (ad o)), (1, .int l1), (2, .null)] → W p l e R s m args below meth c H locs cells slots Q (F0 m 32 ls []) := by
  intro ad NN cells slots o l1 kb nb x H locs ls hNN hag hRc hRs fo hw hW hS hl
  unfold j_Asm_assembleN_32 at hw
  refine lv_iconst (v := (-1)) hx hb d_Asm_assemble_32 (by decide) ?_
  exact hret (-1) ad NN cells slots x H locs 33 ls d_Asm_assemble_33 hag (Nat.le_trans (Nat.le_add_right _ _) hRc) (Nat.le_trans (Nat.le_add_right _ _) hRs) hw hW hS
set_option maxRecDepth 100000 in
set_option maxHeartbeats 4000000 in
set_option maxRecDepth 100000 in
theorem t_Asm_assembleN_e {p : Program} {l : Launch} {e : Env} {R : Room} {s : State} {m : MethodId} {args : Array Value} {below : List Frame} {meth : Method} {c : Code} {Q : State → Prop} {dC : Nat → ClassId} {dI : Nat → Nat → Nat} {cI cB cJ cZ : ClassId} {A : Nat → Prop} {E : Heap} {tM tC : Nat} {kK kV : Nat → Nat} {ad0 : Nat → Nat} {NN0 : Nat} {post : Int32 → St → Prop} (hx : p.tables.exec = Jvm.exec) (hb : c.code = b_Asm_assembleN) (hml : c.maxLocals = 8) (hown : s.vm.findClass R_Asm = some m.cls) (hT : ∀ w ∈ TG, w.before args s = true) (hK : va_K (dC, dI) CL (TY cI cB cJ cZ) s) (hN : NW s) (hA : ∀ q : Nat, s.heap.size ≤ q → A q) (hRf : 207 ≤ R.frames) (hRl : 5516 ≤ R.locals) (hE : CE E tM tC kK kV A s) (hret : ∀ (r : Int32) (ad : Nat → Nat) (NN cells slots : Nat) (x : St) (H : Heap) (locs : List Loc) (pc : Nat) (ls : Array Slot), decode b_Asm_assembleN pc = .ok (.ireturn, 1) → (NN0 ≤ NN ∧ ∀ o : Nat, o < NN0 → ad o = ad0 o) → cells ≤ R.cells → slots ≤ R.slots → post r x → Wd dC dI cI cB cJ cZ ad stC kcC NN A x H → va_S A s.heap H locs → W p l e R s m args below meth c H locs cells slots Q (F0 m pc ls [.int r])) : ∀ (ad : Nat → Nat) (NN cells slots : Nat) (o : Nat) (l1 : Int32) (kb : Nat) (nb : Nat) (x : St) (H : Heap) (locs : List Loc) (ls : Array Slot), (152 ≤ NN) → (NN0 ≤ NN ∧ ∀ o : Nat, o < NN0 → ad o = ad0 o) → (cells + kb ≤ R.cells) → (slots + nb ≤ R.slots) → (o < NN ∧ kcC o = 11) → wp_Asm_assembleN post o l1 kb nb x → Wd dC dI cI cB cJ cZ ad stC kcC NN A x H → va_S A s.heap H locs → lv_has ls 8 [(0, .ref (ad o)), (1, .int l1), (2, .null)] → W p l e R s m args below meth c H locs cells slots Q (F0 m 0 ls []) := by
  intro ad NN cells slots o l1 kb nb x H locs ls hNN hag hRc hRs fo hw hW hS hl
  unfold wp_Asm_assembleN at hw
  refine lv_aload_n hx hb d_Asm_assemble_0 rfl (lv_at hl 0 rfl) ?_
  refine w_getf (q := (stC o 0)) (k := 0) (t := 11) (C := R_Asm) (T := F_Asm) (N := 4) hx hb hT hown hK hW fo.1 fo.2 (by decide) in_Asm rfl rfl (by decide) rfl fr_Asm_0 w_3_221 d_Asm_assemble_1 rfl ?_
  have hF := hW.free hS hA
  refine va_callv (va_runV (C := R_Snk) (As := []) (rest := []) ⟨hx, hb, hml, hown, hT⟩ (k_Snk_forget l dC dI cI cB cJ cZ ad NN E tM tC kK kV hNN H.size (stC o 0) x (st_ty hNN fo.1 fo.2 rfl) hw) ⟨callB_of 0 hT (gwt_in w_4_81) rfl rfl rfl (hT _ w_1_2) (hT _ w_7_80) (by decide +kernel) ⟨Nat.le_trans (Nat.le_of_ble_eq_true rfl) hRf, Nat.le_trans (Nat.le_of_ble_eq_true rfl) hRl⟩, hT _ w_4_79, hT _ w_4_80⟩ ⟨PVc.blind, va_recv hK hW.1 (ci := 1) (q0 := (stC o 0)) rfl (pic_obj (st_ty hNN fo.1 fo.2 rfl).1 (st_ty hNN fo.1 fo.2 rfl).2 (by decide)), PVc.at _ hW hK hN hE hS hF⟩ rfl rfl hl.1 rfl (lv_room (Nat.le_of_ble_eq_true rfl)) d_Asm_assemble_4 ⟨(Nat.le_trans (Nat.le_add_right _ _) hRc), (Nat.le_trans (Nat.le_add_right _ _) hRs)⟩) hS (fun q _ h => hF q h) hF (fun  x17 t H locs ht hvm hw hB hz1 hk1 hS => ?_)
  have hW := Wd.back hB ht hF
  clear hB ht hF hz1 hk1 hvm
  refine lv_aload_n hx hb d_Asm_assemble_7 rfl (lv_at hl 0 rfl) ?_
  refine w_getf (q := (stC o 1)) (k := 1) (t := 11) (C := R_Asm) (T := F_Asm) (N := 4) hx hb hT hown hK hW fo.1 fo.2 (by decide) in_Asm rfl rfl (by decide) rfl fr_Asm_1 w_3_223 d_Asm_assemble_8 rfl ?_
  refine w_geti (k := 0) (t := 6) (C := R_Vlt) (T := F_Vlt) (N := 20) hx hb hT hown hK hW (st_ty hNN fo.1 fo.2 rfl).1 (st_ty hNN fo.1 fo.2 rfl).2 (by decide) in_Vlt rfl rfl (by decide) rfl fr_Vlt_0 w_2_121 d_Asm_assemble_11 ?_
  refine lv_if_eq (tgt := 32) hx hb d_Asm_assemble_14 (by decide) (fun c18 => ?_) (fun c18 => ?_)
  · have hw := hw.1 c18
    exact t_Asm_assembleN_32 hx hb hml hown hT hK hN hA hRf hRl hE hret  ad NN cells slots o l1 kb nb x17 H locs ls hNN hag hRc hRs fo hw hW hS (lv_sub hl [0, 1, 2] rfl)
  · have hw := hw.2 c18
    refine lv_iload_n hx hb d_Asm_assemble_17 rfl (lv_at hl 1 rfl) ?_
    refine lv_if_lt (tgt := 32) hx hb d_Asm_assemble_18 (by decide) (fun c19 => ?_) (fun c19 => ?_)
    · have hw := hw.1 c19
      exact t_Asm_assembleN_32 hx hb hml hown hT hK hN hA hRf hRl hE hret  ad NN cells slots o l1 kb nb x17 H locs ls hNN hag hRc hRs fo hw hW hS (lv_sub hl [0, 1, 2] rfl)
    · have hw := hw.2 c19
      refine lv_iload_n hx hb d_Asm_assemble_21 rfl (lv_at hl 1 rfl) ?_
      refine lv_aload_n hx hb d_Asm_assemble_22 rfl (lv_at hl 0 rfl) ?_
      refine w_getf (q := (stC o 1)) (k := 1) (t := 11) (C := R_Asm) (T := F_Asm) (N := 4) hx hb hT hown hK hW fo.1 fo.2 (by decide) in_Asm rfl rfl (by decide) rfl fr_Asm_1 w_3_223 d_Asm_assemble_23 rfl ?_
      refine w_geti (k := 1) (t := 6) (C := R_Vlt) (T := F_Vlt) (N := 20) hx hb hT hown hK hW (st_ty hNN fo.1 fo.2 rfl).1 (st_ty hNN fo.1 fo.2 rfl).2 (by decide) in_Vlt rfl rfl (by decide) rfl fr_Vlt_1 w_2_123 d_Asm_assemble_26 ?_
      refine lv_icmp_lt (tgt := 34) hx hb d_Asm_assemble_29 (by decide) (fun c20 => ?_) (fun c20 => ?_)
      · have hw := hw.1 c20
        refine lv_aload_n hx hb d_Asm_assemble_34 rfl (lv_at hl 0 rfl) ?_
        refine w_getf (q := (stC o 1)) (k := 1) (t := 11) (C := R_Asm) (T := F_Asm) (N := 4) hx hb hT hown hK hW fo.1 fo.2 (by decide) in_Asm rfl rfl (by decide) rfl fr_Asm_1 w_3_223 d_Asm_assemble_35 rfl ?_
        refine w_getf (q := (stC (stC o 1) 5)) (k := 5) (t := 6) (C := R_Vlt) (T := F_Vlt) (N := 20) hx hb hT hown hK hW (st_ty hNN fo.1 fo.2 rfl).1 (st_ty hNN fo.1 fo.2 rfl).2 (by decide) in_Vlt rfl rfl (by decide) rfl fr_Vlt_5 w_2_135 d_Asm_assemble_38 rfl ?_
        refine lv_astore_n (lv' := [(3, .ref (ad (stC (stC o 1) 5))), (0, .ref (ad o)), (1, .int l1), (2, .null)]) hx hb d_Asm_assemble_41 rfl hl (by decide) rfl (fun ls hl => ?_)
        refine lv_aload_n hx hb d_Asm_assemble_42 rfl (lv_at hl 1 rfl) ?_
        refine w_getf (q := (stC o 3)) (k := 3) (t := 11) (C := R_Asm) (T := F_Asm) (N := 4) hx hb hT hown hK hW fo.1 fo.2 (by decide) in_Asm rfl rfl (by decide) rfl fr_Asm_3 w_3_225 d_Asm_assemble_43 rfl ?_
        refine lv_iconst (v := (-1)) hx hb d_Asm_assemble_46 (by decide) ?_
        have hF := hW.free hS hA
        refine va_callv (va_runS (As := [.ref (ad (stC o 3)), .int (-1)]) (rest := []) ⟨hx, hb, hml, hown, hT⟩ (k_JArr_fill l dC dI cI cB cJ cZ ad NN E tM tC kK kV hNN H.size (stC o 3) (-1) x17 (st_ty hNN fo.1 fo.2 rfl) hw) ⟨callB_of 2 hT (gwt_in w_1_226) rfl rfl rfl (hT _ w_1_7) (hT _ w_7_81) (by decide +kernel) ⟨Nat.le_trans (Nat.le_of_ble_eq_true rfl) hRf, Nat.le_trans (Nat.le_of_ble_eq_true rfl) hRl⟩, hT _ w_1_225⟩ ⟨PVc.blind, PVc.at _ hW hK hN hE hS hF⟩ rfl rfl hl.1 rfl (lv_room (Nat.le_of_ble_eq_true rfl)) d_Asm_assemble_47 ⟨(Nat.le_trans (Nat.le_add_right _ _) hRc), (Nat.le_trans (Nat.le_add_right _ _) hRs)⟩) hS (fun q _ h => hF q h) hF (fun  x21 t H locs ht hvm hw hB hz1 hk1 hS => ?_)
        have hW := Wd.back hB ht hF
        clear hB ht hF hz1 hk1 hvm
        refine lv_aload_n hx hb d_Asm_assemble_50 rfl (lv_at hl 0 rfl) ?_
        refine w_geti (k := 1) (t := 3) (C := R_Sch) (T := F_Sch) (N := 13) hx hb hT hown hK hW (st_ty hNN (st_ty hNN fo.1 fo.2 rfl).1 (st_ty hNN fo.1 fo.2 rfl).2 rfl).1 (st_ty hNN (st_ty hNN fo.1 fo.2 rfl).1 (st_ty hNN fo.1 fo.2 rfl).2 rfl).2 (by decide) in_Sch rfl rfl (by decide) rfl fr_Sch_1 w_1_136 d_Asm_assemble_51 ?_
        refine lv_iconst (v := 1) hx hb d_Asm_assemble_54 (by decide) ?_
        refine lv_isub hx hb d_Asm_assemble_55 ?_
        refine lv_topi (fun v22 ev22 => ?_)
        have hw := hw v22 ev22
        refine lv_istore (lv' := [(4, .int v22), (3, .ref (ad (stC (stC o 1) 5))), (0, .ref (ad o)), (1, .int l1), (2, .null)]) hx hb d_Asm_assemble_56 hl (by decide) rfl (fun ls hl => ?_)
        obtain ⟨n, hw⟩ := hw
        exact tl_Asm_assembleN_58 hx hb hml hown hT hK hN hA hRf hRl hE hret  n ad NN cells slots o l1 (stC (stC o 1) 5) v22 kb nb x21 H locs ls hNN hag hRc hRs fo (st_ty hNN (st_ty hNN fo.1 fo.2 rfl).1 (st_ty hNN fo.1 fo.2 rfl).2 rfl) hw hW hS (lv_sub hl [2, 3, 4, 1, 0] rfl)
      · have hw := hw.2 c20
        exact t_Asm_assembleN_32 hx hb hml hown hT hK hN hA hRf hRl hE hret  ad NN cells slots o l1 kb nb x17 H locs ls hNN hag hRc hRs fo hw hW hS (lv_sub hl [0, 1, 2] rfl)
set_option maxHeartbeats 4000000 in
set_option maxRecDepth 100000 in
theorem k_Asm_assembleN (l : Launch) (dC : Nat → ClassId) (dI : Nat → Nat → Nat) (cI cB cJ cZ : ClassId) (ad : Nat → Nat) (NN : Nat) (E : Heap) (tM tC : Nat) (kK kV : Nat → Nat) (hNN : 152 ≤ NN) (sz : Nat) (o : Nat) (l1 : Int32) (kb : Nat) (nb : Nat) (x : St) (fo : o < NN ∧ kcC o = 11) {post : Int32 → St → Prop} (hw : wp_Asm_assembleN post o l1 kb nb x) : Met l y_Asm_assembleN (wsOf y_Asm_assembleN b_Asm_assembleN 8 (some (.int))) ({ frames := 207, cells := kb, slots := nb, locals := 5516 }) (va_Pc [.ref (ad o), .int l1, .null] (PVc dC dI cI cB cJ cZ ad stC kcC NN E tM tC kK kV sz x)) (va_Qi (fun (r : Int32) (u : St × (Nat → Nat) × Nat) => post r u.1) (fun u t => Wd dC dI cI cB cJ cZ u.2.1 stC kcC u.2.2 (va_A (pic ad stC kcC NN cI cB cJ cZ x) sz) u.1 t.heap ∧ NN ≤ u.2.2 ∧ ∀ o : Nat, o < NN → u.2.1 o = ad o) (va_A (pic ad stC kcC NN cI cB cJ cZ x) sz)) kb nb (va_A (pic ad stC kcC NN cI cB cJ cZ x) sz) := by
  refine Met.ofW (cc := b_Asm_assembleN) (maxL := 8) (ret := some (.int)) (by decide) rfl ?_
  intro p e s m args below meth c s₁ B hml hv
  obtain ⟨rfl, ⟨hsz, hW0, hK, hN⟩, hE⟩ := hv
  have hx := B.exec
  have hb := B.bytes
  have hr := B.returns
  have hts := atoms_spec B.pre
  have hT : ∀ w ∈ TG, w.before _ s = true := fun w h => hts w (List.mem_cons_of_mem _ h)
  have hown : s.vm.findClass R_Asm = some m.cls := findClass_of_methodNamed B.named
  have hlocks := B.notSynchronized
  subst hsz
  have hW : Wd dC dI cI cB cJ cZ ad stC kcC NN (va_A (pic ad stC kcC NN cI cB cJ cZ x) s.heap.size) x s.heap := ⟨hW0.1, hW0.2.1.self (sz := s.heap.size), hW0.2.2⟩
  generalize hAe : va_A (pic ad stC kcC NN cI cB cJ cZ x) s.heap.size = A at hW hE ⊢
  have hA : ∀ q : Nat, s.heap.size ≤ q → A q := fun q h => by rw [← hAe]; exact Or.inr h
  have hS : va_S A s.heap s.heap [] := va_S.rf
  have hl := lv_entry ([.ref (ad o), .int l1, .null]) (n := 8) (Nat.le_of_ble_eq_true rfl)
  rw [lg_entry_eq]
  generalize (lg_sl ([.ref (ad o), .int l1, .null]) ++ List.replicate (8 - (lg_sl ([.ref (ad o), .int l1, .null])).length) Slot.unset).toArray = ls at hl ⊢
  have hl : lv_has ls 8 [(0, .ref (ad o)), (1, .int l1), (2, .null)] := hl
  exact t_Asm_assembleN_e hx hb hml hown hT hK hN hA (Nat.le_refl 207) (Nat.le_refl 5516) hE (fun r ad1 NN1 cells slots x1 H locs pc ls hd hag hc hs hp hW hS => W.widen (k := kb) (n := nb) hc hs (W.iret (v := r) hx hb hr (fun t ht hM => ⟨⟨r, (x1, ad1, NN1), rfl, hp, Wd.back hW ht.symm (fun _ z => z), hag.1, hag.2⟩, hS.F ht⟩) hS.2.2 hd hlocks))  ad NN 0 0 o l1 kb nb x _ _ ls hNN ⟨Nat.le_refl _, fun _ _ => rfl⟩ (Nat.le_of_eq (Nat.zero_add kb)) (Nat.le_of_eq (Nat.zero_add nb)) fo hw hW hS hl
set_option maxRecDepth 100000 in
set_option maxHeartbeats 4000000 in
set_option maxRecDepth 100000 in
theorem t_V_show_e {p : Program} {l : Launch} {e : Env} {R : Room} {s : State} {m : MethodId} {args : Array Value} {below : List Frame} {meth : Method} {c : Code} {Q : State → Prop} {dC : Nat → ClassId} {dI : Nat → Nat → Nat} {cI cB cJ cZ : ClassId} {A : Nat → Prop} {E : Heap} {tM tC : Nat} {kK kV : Nat → Nat} {ad0 : Nat → Nat} {NN0 : Nat} {post : Int32 → St → Prop} (hx : p.tables.exec = Jvm.exec) (hb : c.code = b_V_show) (hml : c.maxLocals = 2) (hown : s.vm.findClass R_V = some m.cls) (hT : ∀ w ∈ TG, w.before args s = true) (hK : va_K (dC, dI) CL (TY cI cB cJ cZ) s) (hN : NW s) (hA : ∀ q : Nat, s.heap.size ≤ q → A q) (hRf : 208 ≤ R.frames) (hRl : 5543 ≤ R.locals) (hE : CE E tM tC kK kV A s) (hret : ∀ (r : Int32) (ad : Nat → Nat) (NN cells slots : Nat) (x : St) (H : Heap) (locs : List Loc) (pc : Nat) (ls : Array Slot), decode b_V_show pc = .ok (.ireturn, 1) → (NN0 ≤ NN ∧ ∀ o : Nat, o < NN0 → ad o = ad0 o) → cells ≤ R.cells → slots ≤ R.slots → post r x → Wd dC dI cI cB cJ cZ ad stC kcC NN A x H → va_S A s.heap H locs → W p l e R s m args below meth c H locs cells slots Q (F0 m pc ls [.int r])) : ∀ (ad : Nat → Nat) (NN cells slots : Nat) (o : Nat) (l1 : Int32) (kb : Nat) (nb : Nat) (x : St) (H : Heap) (locs : List Loc) (ls : Array Slot), (152 ≤ NN) → (NN0 ≤ NN ∧ ∀ o : Nat, o < NN0 → ad o = ad0 o) → (cells + kb ≤ R.cells) → (slots + nb ≤ R.slots) → (o < NN ∧ kcC o = 0) → wp_V_show post o l1 kb nb x → Wd dC dI cI cB cJ cZ ad stC kcC NN A x H → va_S A s.heap H locs → lv_has ls 2 [(0, .ref (ad o)), (1, .int l1)] → W p l e R s m args below meth c H locs cells slots Q (F0 m 0 ls []) := by
  intro ad NN cells slots o l1 kb nb x H locs ls hNN hag hRc hRs fo hw hW hS hl
  unfold wp_V_show at hw
  refine lv_aload_n hx hb d_V_show_0 rfl (lv_at hl 0 rfl) ?_
  refine w_getf (q := (stC o 14)) (k := 14) (t := 0) (C := R_V) (T := F_V) (N := 15) hx hb hT hown hK hW fo.1 fo.2 (by decide) in_V rfl rfl (by decide) rfl fr_V_14 w_4_9 d_V_show_1 rfl ?_
  refine lv_iload_n hx hb d_V_show_4 rfl (lv_at hl 1 rfl) ?_
  refine lv_null hx hb d_V_show_5 ?_
  obtain ⟨k1, n2, k3, n4, ek1, en2, hw⟩ := hw
  have hF := hW.free hS hA
  refine va_calli (va_runV (C := R_Asm) (As := [.int l1, .null]) (rest := []) ⟨hx, hb, hml, hown, hT⟩ (k_Asm_assembleN l dC dI cI cB cJ cZ ad NN E tM tC kK kV hNN H.size (stC o 14) l1 k1 n2 x (st_ty hNN fo.1 fo.2 rfl) hw) ⟨callB_of 2 hT (gwt_in w_7_79) rfl rfl rfl (hT _ w_1_14) (hT _ w_7_76) (by decide +kernel) ⟨Nat.le_trans (Nat.le_of_ble_eq_true rfl) hRf, Nat.le_trans (Nat.le_of_ble_eq_true rfl) hRl⟩, hT _ w_7_77, hT _ w_7_78⟩ ⟨PVc.blind, va_recv hK hW.1 (ci := 11) (q0 := (stC o 14)) rfl (pic_obj (st_ty hNN fo.1 fo.2 rfl).1 (st_ty hNN fo.1 fo.2 rfl).2 (by decide)), PVc.at _ hW hK hN hE hS hF⟩ rfl rfl hl.1 rfl (lv_room (Nat.le_of_ble_eq_true rfl)) d_V_show_6 ⟨show cells + k1 ≤ R.cells by omega, show slots + n2 ≤ R.slots by omega⟩) hS (fun q _ h => hF q h) hF (fun r6 x5 t H locs ht hvm hw hB hz1 hk1 hS => ?_)
  obtain ⟨x5, ad, NN⟩ := x5
  obtain ⟨hB, hle, hg⟩ := hB
  try dsimp only at hw hB hle hg
  have hW := Wd.back hB ht hF
  rw [← hg o fo.1] at hl
  have fo : o < NN ∧ kcC o = 0 := ⟨Nat.lt_of_lt_of_le fo.1 hle, fo.2⟩
  have hag : NN0 ≤ NN ∧ ∀ o : Nat, o < NN0 → ad o = ad0 o := ⟨Nat.le_trans hag.1 hle, fun o h => (hg o (Nat.lt_of_lt_of_le h hag.1)).trans (hag.2 o h)⟩
  have hNN : 152 ≤ NN := Nat.le_trans hNN hle
  clear hg hle
  obtain ⟨cells, ec⟩ : ∃ z, z = cells + k1 := ⟨_, rfl⟩
  obtain ⟨slots, es⟩ : ∃ z, z = slots + n2 := ⟨_, rfl⟩
  first | rw [← ec, ← es] | rw [Nat.add_zero, Nat.add_zero, ← ec, ← es]
  have hRc : cells + k3 ≤ R.cells := by omega
  have hRs : slots + n4 ≤ R.slots := by omega
  clear ec es hB ht hF hz1 hk1 hvm ek1 en2
  exact hret r6 ad NN cells slots x5 H locs 9 ls d_V_show_9 hag (Nat.le_trans (Nat.le_add_right _ _) hRc) (Nat.le_trans (Nat.le_add_right _ _) hRs) hw hW hS
set_option maxHeartbeats 4000000 in
set_option maxRecDepth 100000 in
theorem k_V_show (l : Launch) (dC : Nat → ClassId) (dI : Nat → Nat → Nat) (cI cB cJ cZ : ClassId) (ad : Nat → Nat) (NN : Nat) (E : Heap) (tM tC : Nat) (kK kV : Nat → Nat) (hNN : 152 ≤ NN) (sz : Nat) (o : Nat) (l1 : Int32) (kb : Nat) (nb : Nat) (x : St) (fo : o < NN ∧ kcC o = 0) {post : Int32 → St → Prop} (hw : wp_V_show post o l1 kb nb x) : Met l y_V_show (wsOf y_V_show b_V_show 2 (some (.int))) ({ frames := 208, cells := kb, slots := nb, locals := 5543 }) (va_Pc [.ref (ad o), .int l1] (PVc dC dI cI cB cJ cZ ad stC kcC NN E tM tC kK kV sz x)) (va_Qi (fun (r : Int32) (u : St × (Nat → Nat) × Nat) => post r u.1) (fun u t => Wd dC dI cI cB cJ cZ u.2.1 stC kcC u.2.2 (va_A (pic ad stC kcC NN cI cB cJ cZ x) sz) u.1 t.heap ∧ NN ≤ u.2.2 ∧ ∀ o : Nat, o < NN → u.2.1 o = ad o) (va_A (pic ad stC kcC NN cI cB cJ cZ x) sz)) kb nb (va_A (pic ad stC kcC NN cI cB cJ cZ x) sz) := by
  refine Met.ofW (cc := b_V_show) (maxL := 2) (ret := some (.int)) (by decide) rfl ?_
  intro p e s m args below meth c s₁ B hml hv
  obtain ⟨rfl, ⟨hsz, hW0, hK, hN⟩, hE⟩ := hv
  have hx := B.exec
  have hb := B.bytes
  have hr := B.returns
  have hts := atoms_spec B.pre
  have hT : ∀ w ∈ TG, w.before _ s = true := fun w h => hts w (List.mem_cons_of_mem _ h)
  have hown : s.vm.findClass R_V = some m.cls := findClass_of_methodNamed B.named
  have hlocks := B.notSynchronized
  subst hsz
  have hW : Wd dC dI cI cB cJ cZ ad stC kcC NN (va_A (pic ad stC kcC NN cI cB cJ cZ x) s.heap.size) x s.heap := ⟨hW0.1, hW0.2.1.self (sz := s.heap.size), hW0.2.2⟩
  generalize hAe : va_A (pic ad stC kcC NN cI cB cJ cZ x) s.heap.size = A at hW hE ⊢
  have hA : ∀ q : Nat, s.heap.size ≤ q → A q := fun q h => by rw [← hAe]; exact Or.inr h
  have hS : va_S A s.heap s.heap [] := va_S.rf
  have hl := lv_entry ([.ref (ad o), .int l1]) (n := 2) (Nat.le_of_ble_eq_true rfl)
  rw [lg_entry_eq]
  generalize (lg_sl ([.ref (ad o), .int l1]) ++ List.replicate (2 - (lg_sl ([.ref (ad o), .int l1])).length) Slot.unset).toArray = ls at hl ⊢
  have hl : lv_has ls 2 [(0, .ref (ad o)), (1, .int l1)] := hl
  exact t_V_show_e hx hb hml hown hT hK hN hA (Nat.le_refl 208) (Nat.le_refl 5543) hE (fun r ad1 NN1 cells slots x1 H locs pc ls hd hag hc hs hp hW hS => W.widen (k := kb) (n := nb) hc hs (W.iret (v := r) hx hb hr (fun t ht hM => ⟨⟨r, (x1, ad1, NN1), rfl, hp, Wd.back hW ht.symm (fun _ z => z), hag.1, hag.2⟩, hS.F ht⟩) hS.2.2 hd hlocks))  ad NN 0 0 o l1 kb nb x _ _ ls hNN ⟨Nat.le_refl _, fun _ _ => rfl⟩ (Nat.le_of_eq (Nat.zero_add kb)) (Nat.le_of_eq (Nat.zero_add nb)) fo hw hW hS hl
end
