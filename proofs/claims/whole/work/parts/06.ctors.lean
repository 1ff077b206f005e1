theorem fr_Ans_10 : F_Ans 10 = (R_Ans, "slots", "[I", true) := rfl
theorem fr_Ans_11 : F_Ans 11 = (R_Ans, "stack", "[I", true) := rfl
theorem fr_Ans_12 : F_Ans 12 = (R_Ans, "teller", "[I", true) := rfl
theorem fr_Ans_13 : F_Ans 13 = (R_Ans, "asked", "[Z", true) := rfl
theorem fr_Ans_4 : F_Ans 4 = (R_Ans, "wanted", "[Z", true) := rfl
theorem fr_Ans_5 : F_Ans 5 = (R_Ans, "rows", "[I", true) := rfl
theorem fr_Ans_8 : F_Ans 8 = (R_Ans, "forms", "[B", true) := rfl
theorem fr_Ans_9 : F_Ans 9 = (R_Ans, "results", "[J", true) := rfl
theorem fr_Qry_10 : F_Qry 10 = (R_Qry, "stepColumn", "[I", true) := rfl
theorem fr_Qry_11 : F_Qry 11 = (R_Qry, "stepOther", "[I", true) := rfl
theorem fr_Qry_12 : F_Qry 12 = (R_Qry, "stepLiterals", "[I", true) := rfl
theorem fr_Qry_14 : F_Qry 14 = (R_Qry, "literal", "[J", true) := rfl
theorem fr_Qry_16 : F_Qry 16 = (R_Qry, "texts", "[B", true) := rfl
theorem fr_Qry_2 : F_Qry 2 = (R_Qry, "itemForm", "[I", true) := rfl
theorem fr_Qry_3 : F_Qry 3 = (R_Qry, "itemField", "[I", true) := rfl
theorem fr_Qry_4 : F_Qry 4 = (R_Qry, "itemAt", "[I", true) := rfl
theorem fr_Qry_6 : F_Qry 6 = (R_Qry, "by", "[I", true) := rfl
theorem fr_Qry_9 : F_Qry 9 = (R_Qry, "stepForm", "[I", true) := rfl
theorem fr_Rec_10 : F_Rec 10 = (R_Rec, "head", "[I", true) := rfl
theorem fr_Rec_11 : F_Rec 11 = (R_Rec, "tail", "[I", true) := rfl
theorem fr_Rec_12 : F_Rec 12 = (R_Rec, "texts", "[B", true) := rfl
theorem fr_Rec_5 : F_Rec 5 = (R_Rec, "rep", "[B", true) := rfl
theorem fr_Rec_6 : F_Rec 6 = (R_Rec, "def", "[B", true) := rfl
theorem fr_Rec_7 : F_Rec 7 = (R_Rec, "val", "[J", true) := rfl
theorem fr_Rec_8 : F_Rec 8 = (R_Rec, "columnOf", "[B", true) := rfl
theorem fr_Rec_9 : F_Rec 9 = (R_Rec, "next", "[I", true) := rfl
theorem fr_Sch_10 : F_Sch 10 = (R_Sch, "fieldOf", "[I", true) := rfl
theorem fr_Sch_11 : F_Sch 11 = (R_Sch, "nameSize", "[I", true) := rfl
theorem fr_Sch_12 : F_Sch 12 = (R_Sch, "names", "[B", true) := rfl
theorem fr_Sch_2 : F_Sch 2 = (R_Sch, "mode", "[I", true) := rfl
theorem fr_Sch_3 : F_Sch 3 = (R_Sch, "type", "[I", true) := rfl
theorem fr_Sch_4 : F_Sch 4 = (R_Sch, "parent", "[I", true) := rfl
theorem fr_Sch_5 : F_Sch 5 = (R_Sch, "rep", "[I", true) := rfl
theorem fr_Sch_6 : F_Sch 6 = (R_Sch, "def", "[I", true) := rfl
theorem fr_Sch_7 : F_Sch 7 = (R_Sch, "depth", "[I", true) := rfl
theorem fr_Sch_8 : F_Sch 8 = (R_Sch, "past", "[I", true) := rfl
theorem fr_Sch_9 : F_Sch 9 = (R_Sch, "column", "[I", true) := rfl
theorem fr_Scn_0 : F_Scn 0 = (R_Scn, "bytes", "[B", false) := rfl
theorem fr_Scn_3 : F_Scn 3 = (R_Scn, "place", "I", false) := rfl
theorem fr_Snk_0 : F_Snk 0 = (R_Snk, "bytes", "[B", false) := rfl
theorem fr_Snk_3 : F_Snk 3 = (R_Snk, "room", "I", true) := rfl
theorem fr_Snk_4 : F_Snk 4 = (R_Snk, "widths", "[I", true) := rfl
theorem fr_Src_0 : F_Src 0 = (R_Src, "bytes", "[B", true) := rfl
theorem fr_Src_4 : F_Src 4 = (R_Src, "widths", "[I", true) := rfl
theorem w_1_129 : (Jvm.Cond.methodLink "StripedVault$Schema" (3 : Nat) ({ cls := "java/lang/Object", name := "<init>", desc := "()V" } : Jvm.MethodName)) ∈ TG := tw_1 129 (by decide +kernel) (by decide +kernel)
theorem w_1_140 : (Jvm.Cond.fieldLink "StripedVault$Schema" (9 : Nat) "StripedVault$Schema" "mode" "[I") ∈ TG := tw_1 140 (by decide +kernel) (by decide +kernel)
theorem w_1_145 : (Jvm.Cond.fieldLink "StripedVault$Schema" (15 : Nat) "StripedVault$Schema" "type" "[I") ∈ TG := tw_1 145 (by decide +kernel) (by decide +kernel)
theorem w_1_152 : (Jvm.Cond.fieldLink "StripedVault$Schema" (18 : Nat) "StripedVault$Schema" "parent" "[I") ∈ TG := tw_1 152 (by decide +kernel) (by decide +kernel)
theorem w_1_157 : (Jvm.Cond.fieldLink "StripedVault$Schema" (21 : Nat) "StripedVault$Schema" "rep" "[I") ∈ TG := tw_1 157 (by decide +kernel) (by decide +kernel)
theorem w_1_162 : (Jvm.Cond.fieldLink "StripedVault$Schema" (24 : Nat) "StripedVault$Schema" "def" "[I") ∈ TG := tw_1 162 (by decide +kernel) (by decide +kernel)
theorem w_1_168 : (Jvm.Cond.fieldLink "StripedVault$Schema" (27 : Nat) "StripedVault$Schema" "depth" "[I") ∈ TG := tw_1 168 (by decide +kernel) (by decide +kernel)
theorem w_1_169 : (Jvm.Cond.fieldLink "StripedVault$Schema" (30 : Nat) "StripedVault$Schema" "past" "[I") ∈ TG := tw_1 169 (by decide +kernel) (by decide +kernel)
theorem w_1_173 : (Jvm.Cond.fieldLink "StripedVault$Schema" (33 : Nat) "StripedVault$Schema" "column" "[I") ∈ TG := tw_1 173 (by decide +kernel) (by decide +kernel)
theorem w_1_178 : (Jvm.Cond.fieldLink "StripedVault$Schema" (36 : Nat) "StripedVault$Schema" "fieldOf" "[I") ∈ TG := tw_1 178 (by decide +kernel) (by decide +kernel)
theorem w_1_184 : (Jvm.Cond.fieldLink "StripedVault$Schema" (39 : Nat) "StripedVault$Schema" "nameSize" "[I") ∈ TG := tw_1 184 (by decide +kernel) (by decide +kernel)
theorem w_1_187 : (Jvm.Cond.fieldLink "StripedVault$Schema" (42 : Nat) "StripedVault$Schema" "names" "[B") ∈ TG := tw_1 187 (by decide +kernel) (by decide +kernel)
theorem w_1_222 : (Jvm.Cond.methodLink "StripedVault$Records" (3 : Nat) ({ cls := "java/lang/Object", name := "<init>", desc := "()V" } : Jvm.MethodName)) ∈ TG := tw_1 222 (by decide +kernel) (by decide +kernel)
theorem w_1_223 : (Jvm.Cond.constant "StripedVault$Records" (35 : Nat) (64000 : Int32)) ∈ TG := tw_1 223 (by decide +kernel) (by decide +kernel)
theorem w_1_224 : (Jvm.Cond.methodLink "StripedVault$Records" (39 : Nat) ({ cls := "java/util/Arrays", name := "fill", desc := "([II)V" } : Jvm.MethodName)) ∈ TG := tw_1 224 (by decide +kernel) (by decide +kernel)
theorem w_1_225 : (Jvm.Cond.static ({ cls := "java/util/Arrays", name := "fill", desc := "([II)V" } : Jvm.MethodName)) ∈ TG := tw_1 225 (by decide +kernel) (by decide +kernel)
theorem w_1_226 : (Jvm.Cond.code ({ cls := "java/util/Arrays", name := "fill", desc := "([II)V" } : Jvm.MethodName) prog_22_method_103_code (4 : Nat) (Option.none : Option Jvm.ClassFile.FieldType)) ∈ TG := tw_1 226 (by decide +kernel) (by decide +kernel)
theorem w_1_234 : (Jvm.Cond.fieldLink "StripedVault$Records" (9 : Nat) "StripedVault$Records" "rep" "[B") ∈ TG := tw_1 234 (by decide +kernel) (by decide +kernel)
theorem w_1_236 : (Jvm.Cond.fieldLink "StripedVault$Records" (15 : Nat) "StripedVault$Records" "def" "[B") ∈ TG := tw_1 236 (by decide +kernel) (by decide +kernel)
theorem w_1_238 : (Jvm.Cond.fieldLink "StripedVault$Records" (18 : Nat) "StripedVault$Records" "val" "[J") ∈ TG := tw_1 238 (by decide +kernel) (by decide +kernel)
theorem w_1_28 : (Jvm.Cond.instanceMethod ({ cls := "java/lang/Object", name := "<init>", desc := "()V" } : Jvm.MethodName)) ∈ TG := tw_1 28 (by decide +kernel) (by decide +kernel)
theorem w_1_3 : (Jvm.Cond.initialized "java/lang/Math") ∈ TG := tw_1 3 (by decide +kernel) (by decide +kernel)
theorem w_1_36 : (Jvm.Cond.methodLink "StripedVault$Sink" (3 : Nat) ({ cls := "java/lang/Object", name := "<init>", desc := "()V" } : Jvm.MethodName)) ∈ TG := tw_1 36 (by decide +kernel) (by decide +kernel)
theorem w_1_37 : (Jvm.Cond.methodLink "StripedVault$Sink" (19 : Nat) ({ cls := "java/lang/Math", name := "min", desc := "(II)I" } : Jvm.MethodName)) ∈ TG := tw_1 37 (by decide +kernel) (by decide +kernel)
theorem w_1_38 : (Jvm.Cond.static ({ cls := "java/lang/Math", name := "min", desc := "(II)I" } : Jvm.MethodName)) ∈ TG := tw_1 38 (by decide +kernel) (by decide +kernel)
theorem w_1_39 : (Jvm.Cond.code ({ cls := "java/lang/Math", name := "min", desc := "(II)I" } : Jvm.MethodName) prog_17_method_69_code (2 : Nat) (Option.some Jvm.ClassFile.FieldType.int)) ∈ TG := tw_1 39 (by decide +kernel) (by decide +kernel)
theorem w_1_40 : (Jvm.Cond.fieldLink "StripedVault$Sink" (25 : Nat) "StripedVault$Sink" "bytes" "[B") ∈ TG := tw_1 40 (by decide +kernel) (by decide +kernel)
theorem w_1_50 : (Jvm.Cond.fieldLink "StripedVault$Sink" (15 : Nat) "StripedVault$Sink" "room" "I") ∈ TG := tw_1 50 (by decide +kernel) (by decide +kernel)
theorem w_1_51 : (Jvm.Cond.fieldLink "StripedVault$Sink" (9 : Nat) "StripedVault$Sink" "widths" "[I") ∈ TG := tw_1 51 (by decide +kernel) (by decide +kernel)
theorem w_1_69 : (Jvm.Cond.arrayClass Jvm.ClassFile.FieldType.int) ∈ TG := tw_1 69 (by decide +kernel) (by decide +kernel)
theorem w_1_7 : (Jvm.Cond.initialized "java/util/Arrays") ∈ TG := tw_1 7 (by decide +kernel) (by decide +kernel)
theorem w_1_70 : (Jvm.Cond.arrayClass Jvm.ClassFile.FieldType.byte) ∈ TG := tw_1 70 (by decide +kernel) (by decide +kernel)
theorem w_1_76 : (Jvm.Cond.methodLink "StripedVault$Scan" (3 : Nat) ({ cls := "java/lang/Object", name := "<init>", desc := "()V" } : Jvm.MethodName)) ∈ TG := tw_1 76 (by decide +kernel) (by decide +kernel)
theorem w_1_77 : (Jvm.Cond.fieldLink "StripedVault$Scan" (9 : Nat) "StripedVault$Scan" "bytes" "[B") ∈ TG := tw_1 77 (by decide +kernel) (by decide +kernel)
theorem w_1_89 : (Jvm.Cond.fieldLink "StripedVault$Scan" (15 : Nat) "StripedVault$Scan" "place" "I") ∈ TG := tw_1 89 (by decide +kernel) (by decide +kernel)
theorem w_2_0 : (Jvm.Cond.fieldLink "StripedVault$Records" (22 : Nat) "StripedVault$Records" "columnOf" "[B") ∈ TG := tw_2 0 (by decide +kernel) (by decide +kernel)
theorem w_2_1 : (Jvm.Cond.fieldLink "StripedVault$Records" (25 : Nat) "StripedVault$Records" "next" "[I") ∈ TG := tw_2 1 (by decide +kernel) (by decide +kernel)
theorem w_2_235 : (Jvm.Cond.methodLink "StripedVault$Source" (3 : Nat) ({ cls := "java/lang/Object", name := "<init>", desc := "()V" } : Jvm.MethodName)) ∈ TG := tw_2 235 (by decide +kernel) (by decide +kernel)
theorem w_2_236 : (Jvm.Cond.fieldLink "StripedVault$Source" (15 : Nat) "StripedVault$Source" "bytes" "[B") ∈ TG := tw_2 236 (by decide +kernel) (by decide +kernel)
theorem w_2_3 : (Jvm.Cond.fieldLink "StripedVault$Records" (29 : Nat) "StripedVault$Records" "head" "[I") ∈ TG := tw_2 3 (by decide +kernel) (by decide +kernel)
theorem w_2_41 : (Jvm.Cond.arrayClass Jvm.ClassFile.FieldType.long) ∈ TG := tw_2 41 (by decide +kernel) (by decide +kernel)
theorem w_2_5 : (Jvm.Cond.fieldLink "StripedVault$Records" (32 : Nat) "StripedVault$Records" "tail" "[I") ∈ TG := tw_2 5 (by decide +kernel) (by decide +kernel)
theorem w_2_6 : (Jvm.Cond.fieldLink "StripedVault$Records" (36 : Nat) "StripedVault$Records" "texts" "[B") ∈ TG := tw_2 6 (by decide +kernel) (by decide +kernel)
theorem w_3_100 : (Jvm.Cond.fieldLink "StripedVault$Query" (36 : Nat) "StripedVault$Query" "literal" "[J") ∈ TG := tw_3 100 (by decide +kernel) (by decide +kernel)
theorem w_3_103 : (Jvm.Cond.fieldLink "StripedVault$Query" (40 : Nat) "StripedVault$Query" "texts" "[B") ∈ TG := tw_3 103 (by decide +kernel) (by decide +kernel)
theorem w_3_154 : (Jvm.Cond.methodLink "StripedVault$Answer" (3 : Nat) ({ cls := "java/lang/Object", name := "<init>", desc := "()V" } : Jvm.MethodName)) ∈ TG := tw_3 154 (by decide +kernel) (by decide +kernel)
theorem w_3_163 : (Jvm.Cond.fieldLink "StripedVault$Answer" (9 : Nat) "StripedVault$Answer" "wanted" "[Z") ∈ TG := tw_3 163 (by decide +kernel) (by decide +kernel)
theorem w_3_165 : (Jvm.Cond.fieldLink "StripedVault$Answer" (15 : Nat) "StripedVault$Answer" "rows" "[I") ∈ TG := tw_3 165 (by decide +kernel) (by decide +kernel)
theorem w_3_168 : (Jvm.Cond.fieldLink "StripedVault$Answer" (19 : Nat) "StripedVault$Answer" "forms" "[B") ∈ TG := tw_3 168 (by decide +kernel) (by decide +kernel)
theorem w_3_170 : (Jvm.Cond.fieldLink "StripedVault$Answer" (23 : Nat) "StripedVault$Answer" "results" "[J") ∈ TG := tw_3 170 (by decide +kernel) (by decide +kernel)
theorem w_3_172 : (Jvm.Cond.fieldLink "StripedVault$Answer" (27 : Nat) "StripedVault$Answer" "slots" "[I") ∈ TG := tw_3 172 (by decide +kernel) (by decide +kernel)
theorem w_3_173 : (Jvm.Cond.fieldLink "StripedVault$Answer" (30 : Nat) "StripedVault$Answer" "stack" "[I") ∈ TG := tw_3 173 (by decide +kernel) (by decide +kernel)
theorem w_3_174 : (Jvm.Cond.fieldLink "StripedVault$Answer" (33 : Nat) "StripedVault$Answer" "teller" "[I") ∈ TG := tw_3 174 (by decide +kernel) (by decide +kernel)
theorem w_3_175 : (Jvm.Cond.fieldLink "StripedVault$Answer" (36 : Nat) "StripedVault$Answer" "asked" "[Z") ∈ TG := tw_3 175 (by decide +kernel) (by decide +kernel)
theorem w_3_211 : (Jvm.Cond.arrayClass Jvm.ClassFile.FieldType.boolean) ∈ TG := tw_3 211 (by decide +kernel) (by decide +kernel)
theorem w_3_3 : (Jvm.Cond.fieldLink "StripedVault$Source" (9 : Nat) "StripedVault$Source" "widths" "[I") ∈ TG := tw_3 3 (by decide +kernel) (by decide +kernel)
theorem w_3_73 : (Jvm.Cond.methodLink "StripedVault$Query" (3 : Nat) ({ cls := "java/lang/Object", name := "<init>", desc := "()V" } : Jvm.MethodName)) ∈ TG := tw_3 73 (by decide +kernel) (by decide +kernel)
theorem w_3_78 : (Jvm.Cond.fieldLink "StripedVault$Query" (9 : Nat) "StripedVault$Query" "itemForm" "[I") ∈ TG := tw_3 78 (by decide +kernel) (by decide +kernel)
theorem w_3_80 : (Jvm.Cond.fieldLink "StripedVault$Query" (15 : Nat) "StripedVault$Query" "itemField" "[I") ∈ TG := tw_3 80 (by decide +kernel) (by decide +kernel)
theorem w_3_82 : (Jvm.Cond.fieldLink "StripedVault$Query" (18 : Nat) "StripedVault$Query" "itemAt" "[I") ∈ TG := tw_3 82 (by decide +kernel) (by decide +kernel)
theorem w_3_85 : (Jvm.Cond.fieldLink "StripedVault$Query" (21 : Nat) "StripedVault$Query" "by" "[I") ∈ TG := tw_3 85 (by decide +kernel) (by decide +kernel)
theorem w_3_91 : (Jvm.Cond.fieldLink "StripedVault$Query" (24 : Nat) "StripedVault$Query" "stepForm" "[I") ∈ TG := tw_3 91 (by decide +kernel) (by decide +kernel)
theorem w_3_93 : (Jvm.Cond.fieldLink "StripedVault$Query" (27 : Nat) "StripedVault$Query" "stepColumn" "[I") ∈ TG := tw_3 93 (by decide +kernel) (by decide +kernel)
theorem w_3_95 : (Jvm.Cond.fieldLink "StripedVault$Query" (30 : Nat) "StripedVault$Query" "stepOther" "[I") ∈ TG := tw_3 95 (by decide +kernel) (by decide +kernel)
theorem w_3_97 : (Jvm.Cond.fieldLink "StripedVault$Query" (33 : Nat) "StripedVault$Query" "stepLiterals" "[I") ∈ TG := tw_3 97 (by decide +kernel) (by decide +kernel)
theorem w_obj : Cond.code objectInit ⟨#[0xb1]⟩ 1 none ∈ TG := tw_1 29 (by decide +kernel) (by decide +kernel)
theorem d_Snk_init_0 : decode b_Snk_init 0 = .ok (.aload_n 0, 1) := by decide +kernel
theorem d_Snk_init_1 : decode b_Snk_init 1 = .ok (.invokespecial 3, 3) := by decide +kernel
theorem d_Snk_init_4 : decode b_Snk_init 4 = .ok (.aload_n 0, 1) := by decide +kernel
theorem d_Snk_init_5 : decode b_Snk_init 5 = .ok (.iconst 4, 1) := by decide +kernel
theorem d_Snk_init_6 : decode b_Snk_init 6 = .ok (.newarray .int, 2) := by decide +kernel
theorem d_Snk_init_8 : decode b_Snk_init 8 = .ok (.putfield 9, 3) := by decide +kernel
theorem d_Snk_init_11 : decode b_Snk_init 11 = .ok (.aload_n 0, 1) := by decide +kernel
theorem d_Snk_init_12 : decode b_Snk_init 12 = .ok (.iload_n 1, 1) := by decide +kernel
theorem d_Snk_init_13 : decode b_Snk_init 13 = .ok (.putfield 15, 3) := by decide +kernel
theorem d_Snk_init_16 : decode b_Snk_init 16 = .ok (.aload_n 0, 1) := by decide +kernel
theorem d_Snk_init_17 : decode b_Snk_init 17 = .ok (.iload_n 1, 1) := by decide +kernel
theorem d_Snk_init_18 : decode b_Snk_init 18 = .ok (.sipush 512, 3) := by decide +kernel
theorem d_Snk_init_21 : decode b_Snk_init 21 = .ok (.invokestatic 19, 3) := by decide +kernel
theorem d_Snk_init_24 : decode b_Snk_init 24 = .ok (.newarray .byte, 2) := by decide +kernel
theorem d_Snk_init_26 : decode b_Snk_init 26 = .ok (.putfield 25, 3) := by decide +kernel
theorem d_Snk_init_29 : decode b_Snk_init 29 = .ok (.return_, 1) := by decide +kernel
theorem d_Scn_init_0 : decode b_Scn_init 0 = .ok (.aload_n 0, 1) := by decide +kernel
theorem d_Scn_init_1 : decode b_Scn_init 1 = .ok (.invokespecial 3, 3) := by decide +kernel
theorem d_Scn_init_4 : decode b_Scn_init 4 = .ok (.aload_n 0, 1) := by decide +kernel
theorem d_Scn_init_5 : decode b_Scn_init 5 = .ok (.iconst 0, 1) := by decide +kernel
theorem d_Scn_init_6 : decode b_Scn_init 6 = .ok (.newarray .byte, 2) := by decide +kernel
theorem d_Scn_init_8 : decode b_Scn_init 8 = .ok (.putfield 9, 3) := by decide +kernel
theorem d_Scn_init_11 : decode b_Scn_init 11 = .ok (.aload_n 0, 1) := by decide +kernel
theorem d_Scn_init_12 : decode b_Scn_init 12 = .ok (.iconst (-1), 1) := by decide +kernel
theorem d_Scn_init_13 : decode b_Scn_init 13 = .ok (.putfield 15, 3) := by decide +kernel
theorem d_Scn_init_16 : decode b_Scn_init 16 = .ok (.return_, 1) := by decide +kernel
theorem d_Sch_init_0 : decode b_Sch_init 0 = .ok (.aload_n 0, 1) := by decide +kernel
theorem d_Sch_init_1 : decode b_Sch_init 1 = .ok (.invokespecial 3, 3) := by decide +kernel
theorem d_Sch_init_4 : decode b_Sch_init 4 = .ok (.aload_n 0, 1) := by decide +kernel
theorem d_Sch_init_5 : decode b_Sch_init 5 = .ok (.sipush 128, 3) := by decide +kernel
theorem d_Sch_init_8 : decode b_Sch_init 8 = .ok (.newarray .int, 2) := by decide +kernel
theorem d_Sch_init_10 : decode b_Sch_init 10 = .ok (.putfield 9, 3) := by decide +kernel
theorem d_Sch_init_13 : decode b_Sch_init 13 = .ok (.aload_n 0, 1) := by decide +kernel
theorem d_Sch_init_14 : decode b_Sch_init 14 = .ok (.sipush 128, 3) := by decide +kernel
theorem d_Sch_init_17 : decode b_Sch_init 17 = .ok (.newarray .int, 2) := by decide +kernel
theorem d_Sch_init_19 : decode b_Sch_init 19 = .ok (.putfield 15, 3) := by decide +kernel
theorem d_Sch_init_22 : decode b_Sch_init 22 = .ok (.aload_n 0, 1) := by decide +kernel
theorem d_Sch_init_23 : decode b_Sch_init 23 = .ok (.sipush 128, 3) := by decide +kernel
theorem d_Sch_init_26 : decode b_Sch_init 26 = .ok (.newarray .int, 2) := by decide +kernel
theorem d_Sch_init_28 : decode b_Sch_init 28 = .ok (.putfield 18, 3) := by decide +kernel
theorem d_Sch_init_31 : decode b_Sch_init 31 = .ok (.aload_n 0, 1) := by decide +kernel
theorem d_Sch_init_32 : decode b_Sch_init 32 = .ok (.sipush 128, 3) := by decide +kernel
theorem d_Sch_init_35 : decode b_Sch_init 35 = .ok (.newarray .int, 2) := by decide +kernel
theorem d_Sch_init_37 : decode b_Sch_init 37 = .ok (.putfield 21, 3) := by decide +kernel
theorem d_Sch_init_40 : decode b_Sch_init 40 = .ok (.aload_n 0, 1) := by decide +kernel
theorem d_Sch_init_41 : decode b_Sch_init 41 = .ok (.sipush 128, 3) := by decide +kernel
theorem d_Sch_init_44 : decode b_Sch_init 44 = .ok (.newarray .int, 2) := by decide +kernel
theorem d_Sch_init_46 : decode b_Sch_init 46 = .ok (.putfield 24, 3) := by decide +kernel
theorem d_Sch_init_49 : decode b_Sch_init 49 = .ok (.aload_n 0, 1) := by decide +kernel
theorem d_Sch_init_50 : decode b_Sch_init 50 = .ok (.sipush 128, 3) := by decide +kernel
theorem d_Sch_init_53 : decode b_Sch_init 53 = .ok (.newarray .int, 2) := by decide +kernel
theorem d_Sch_init_55 : decode b_Sch_init 55 = .ok (.putfield 27, 3) := by decide +kernel
theorem d_Sch_init_58 : decode b_Sch_init 58 = .ok (.aload_n 0, 1) := by decide +kernel
theorem d_Sch_init_59 : decode b_Sch_init 59 = .ok (.sipush 128, 3) := by decide +kernel
theorem d_Sch_init_62 : decode b_Sch_init 62 = .ok (.newarray .int, 2) := by decide +kernel
theorem d_Sch_init_64 : decode b_Sch_init 64 = .ok (.putfield 30, 3) := by decide +kernel
theorem d_Sch_init_67 : decode b_Sch_init 67 = .ok (.aload_n 0, 1) := by decide +kernel
theorem d_Sch_init_68 : decode b_Sch_init 68 = .ok (.sipush 128, 3) := by decide +kernel
theorem d_Sch_init_71 : decode b_Sch_init 71 = .ok (.newarray .int, 2) := by decide +kernel
theorem d_Sch_init_73 : decode b_Sch_init 73 = .ok (.putfield 33, 3) := by decide +kernel
theorem d_Sch_init_76 : decode b_Sch_init 76 = .ok (.aload_n 0, 1) := by decide +kernel
theorem d_Sch_init_77 : decode b_Sch_init 77 = .ok (.bipush 64, 2) := by decide +kernel
theorem d_Sch_init_79 : decode b_Sch_init 79 = .ok (.newarray .int, 2) := by decide +kernel
theorem d_Sch_init_81 : decode b_Sch_init 81 = .ok (.putfield 36, 3) := by decide +kernel
theorem d_Sch_init_84 : decode b_Sch_init 84 = .ok (.aload_n 0, 1) := by decide +kernel
theorem d_Sch_init_85 : decode b_Sch_init 85 = .ok (.sipush 128, 3) := by decide +kernel
theorem d_Sch_init_88 : decode b_Sch_init 88 = .ok (.newarray .int, 2) := by decide +kernel
theorem d_Sch_init_90 : decode b_Sch_init 90 = .ok (.putfield 39, 3) := by decide +kernel
theorem d_Sch_init_93 : decode b_Sch_init 93 = .ok (.aload_n 0, 1) := by decide +kernel
theorem d_Sch_init_94 : decode b_Sch_init 94 = .ok (.sipush 2048, 3) := by decide +kernel
theorem d_Sch_init_97 : decode b_Sch_init 97 = .ok (.newarray .byte, 2) := by decide +kernel
theorem d_Sch_init_99 : decode b_Sch_init 99 = .ok (.putfield 42, 3) := by decide +kernel
theorem d_Sch_init_102 : decode b_Sch_init 102 = .ok (.return_, 1) := by decide +kernel
theorem d_Rec_init_0 : decode b_Rec_init 0 = .ok (.aload_n 0, 1) := by decide +kernel
theorem d_Rec_init_1 : decode b_Rec_init 1 = .ok (.invokespecial 3, 3) := by decide +kernel
theorem d_Rec_init_4 : decode b_Rec_init 4 = .ok (.aload_n 0, 1) := by decide +kernel
theorem d_Rec_init_5 : decode b_Rec_init 5 = .ok (.sipush 10000, 3) := by decide +kernel
theorem d_Rec_init_8 : decode b_Rec_init 8 = .ok (.newarray .byte, 2) := by decide +kernel
theorem d_Rec_init_10 : decode b_Rec_init 10 = .ok (.putfield 9, 3) := by decide +kernel
theorem d_Rec_init_13 : decode b_Rec_init 13 = .ok (.aload_n 0, 1) := by decide +kernel
theorem d_Rec_init_14 : decode b_Rec_init 14 = .ok (.sipush 10000, 3) := by decide +kernel
theorem d_Rec_init_17 : decode b_Rec_init 17 = .ok (.newarray .byte, 2) := by decide +kernel
theorem d_Rec_init_19 : decode b_Rec_init 19 = .ok (.putfield 15, 3) := by decide +kernel
theorem d_Rec_init_22 : decode b_Rec_init 22 = .ok (.aload_n 0, 1) := by decide +kernel
theorem d_Rec_init_23 : decode b_Rec_init 23 = .ok (.sipush 10000, 3) := by decide +kernel
theorem d_Rec_init_26 : decode b_Rec_init 26 = .ok (.newarray .long, 2) := by decide +kernel
theorem d_Rec_init_28 : decode b_Rec_init 28 = .ok (.putfield 18, 3) := by decide +kernel
theorem d_Rec_init_31 : decode b_Rec_init 31 = .ok (.aload_n 0, 1) := by decide +kernel
theorem d_Rec_init_32 : decode b_Rec_init 32 = .ok (.sipush 10000, 3) := by decide +kernel
theorem d_Rec_init_35 : decode b_Rec_init 35 = .ok (.newarray .byte, 2) := by decide +kernel
theorem d_Rec_init_37 : decode b_Rec_init 37 = .ok (.putfield 22, 3) := by decide +kernel
theorem d_Rec_init_40 : decode b_Rec_init 40 = .ok (.aload_n 0, 1) := by decide +kernel
theorem d_Rec_init_41 : decode b_Rec_init 41 = .ok (.sipush 10000, 3) := by decide +kernel
theorem d_Rec_init_44 : decode b_Rec_init 44 = .ok (.newarray .int, 2) := by decide +kernel
theorem d_Rec_init_46 : decode b_Rec_init 46 = .ok (.putfield 25, 3) := by decide +kernel
theorem d_Rec_init_49 : decode b_Rec_init 49 = .ok (.aload_n 0, 1) := by decide +kernel
theorem d_Rec_init_50 : decode b_Rec_init 50 = .ok (.bipush 64, 2) := by decide +kernel
theorem d_Rec_init_52 : decode b_Rec_init 52 = .ok (.newarray .int, 2) := by decide +kernel
theorem d_Rec_init_54 : decode b_Rec_init 54 = .ok (.putfield 29, 3) := by decide +kernel
theorem d_Rec_init_57 : decode b_Rec_init 57 = .ok (.aload_n 0, 1) := by decide +kernel
theorem d_Rec_init_58 : decode b_Rec_init 58 = .ok (.bipush 64, 2) := by decide +kernel
theorem d_Rec_init_60 : decode b_Rec_init 60 = .ok (.newarray .int, 2) := by decide +kernel
theorem d_Rec_init_62 : decode b_Rec_init 62 = .ok (.putfield 32, 3) := by decide +kernel
theorem d_Rec_init_65 : decode b_Rec_init 65 = .ok (.aload_n 0, 1) := by decide +kernel
theorem d_Rec_init_66 : decode b_Rec_init 66 = .ok (.ldc 35, 2) := by decide +kernel
theorem d_Rec_init_68 : decode b_Rec_init 68 = .ok (.newarray .byte, 2) := by decide +kernel
theorem d_Rec_init_70 : decode b_Rec_init 70 = .ok (.putfield 36, 3) := by decide +kernel
theorem d_Rec_init_73 : decode b_Rec_init 73 = .ok (.aload_n 0, 1) := by decide +kernel
theorem d_Rec_init_74 : decode b_Rec_init 74 = .ok (.getfield 29, 3) := by decide +kernel
theorem d_Rec_init_77 : decode b_Rec_init 77 = .ok (.iconst (-1), 1) := by decide +kernel
theorem d_Rec_init_78 : decode b_Rec_init 78 = .ok (.invokestatic 39, 3) := by decide +kernel
theorem d_Rec_init_81 : decode b_Rec_init 81 = .ok (.aload_n 0, 1) := by decide +kernel
theorem d_Rec_init_82 : decode b_Rec_init 82 = .ok (.getfield 32, 3) := by decide +kernel
theorem d_Rec_init_85 : decode b_Rec_init 85 = .ok (.iconst (-1), 1) := by decide +kernel
theorem d_Rec_init_86 : decode b_Rec_init 86 = .ok (.invokestatic 39, 3) := by decide +kernel
theorem d_Rec_init_89 : decode b_Rec_init 89 = .ok (.return_, 1) := by decide +kernel
theorem d_Qry_init_0 : decode b_Qry_init 0 = .ok (.aload_n 0, 1) := by decide +kernel
theorem d_Qry_init_1 : decode b_Qry_init 1 = .ok (.invokespecial 3, 3) := by decide +kernel
theorem d_Qry_init_4 : decode b_Qry_init 4 = .ok (.aload_n 0, 1) := by decide +kernel
theorem d_Qry_init_5 : decode b_Qry_init 5 = .ok (.bipush 16, 2) := by decide +kernel
theorem d_Qry_init_7 : decode b_Qry_init 7 = .ok (.newarray .int, 2) := by decide +kernel
theorem d_Qry_init_9 : decode b_Qry_init 9 = .ok (.putfield 9, 3) := by decide +kernel
theorem d_Qry_init_12 : decode b_Qry_init 12 = .ok (.aload_n 0, 1) := by decide +kernel
theorem d_Qry_init_13 : decode b_Qry_init 13 = .ok (.bipush 16, 2) := by decide +kernel
theorem d_Qry_init_15 : decode b_Qry_init 15 = .ok (.newarray .int, 2) := by decide +kernel
theorem d_Qry_init_17 : decode b_Qry_init 17 = .ok (.putfield 15, 3) := by decide +kernel
theorem d_Qry_init_20 : decode b_Qry_init 20 = .ok (.aload_n 0, 1) := by decide +kernel
theorem d_Qry_init_21 : decode b_Qry_init 21 = .ok (.bipush 16, 2) := by decide +kernel
theorem d_Qry_init_23 : decode b_Qry_init 23 = .ok (.newarray .int, 2) := by decide +kernel
theorem d_Qry_init_25 : decode b_Qry_init 25 = .ok (.putfield 18, 3) := by decide +kernel
theorem d_Qry_init_28 : decode b_Qry_init 28 = .ok (.aload_n 0, 1) := by decide +kernel
theorem d_Qry_init_29 : decode b_Qry_init 29 = .ok (.bipush 8, 2) := by decide +kernel
theorem d_Qry_init_31 : decode b_Qry_init 31 = .ok (.newarray .int, 2) := by decide +kernel
theorem d_Qry_init_33 : decode b_Qry_init 33 = .ok (.putfield 21, 3) := by decide +kernel
theorem d_Qry_init_36 : decode b_Qry_init 36 = .ok (.aload_n 0, 1) := by decide +kernel
theorem d_Qry_init_37 : decode b_Qry_init 37 = .ok (.bipush 64, 2) := by decide +kernel
theorem d_Qry_init_39 : decode b_Qry_init 39 = .ok (.newarray .int, 2) := by decide +kernel
theorem d_Qry_init_41 : decode b_Qry_init 41 = .ok (.putfield 24, 3) := by decide +kernel
theorem d_Qry_init_44 : decode b_Qry_init 44 = .ok (.aload_n 0, 1) := by decide +kernel
theorem d_Qry_init_45 : decode b_Qry_init 45 = .ok (.bipush 64, 2) := by decide +kernel
theorem d_Qry_init_47 : decode b_Qry_init 47 = .ok (.newarray .int, 2) := by decide +kernel
theorem d_Qry_init_49 : decode b_Qry_init 49 = .ok (.putfield 27, 3) := by decide +kernel
theorem d_Qry_init_52 : decode b_Qry_init 52 = .ok (.aload_n 0, 1) := by decide +kernel
theorem d_Qry_init_53 : decode b_Qry_init 53 = .ok (.bipush 64, 2) := by decide +kernel
theorem d_Qry_init_55 : decode b_Qry_init 55 = .ok (.newarray .int, 2) := by decide +kernel
theorem d_Qry_init_57 : decode b_Qry_init 57 = .ok (.putfield 30, 3) := by decide +kernel
theorem d_Qry_init_60 : decode b_Qry_init 60 = .ok (.aload_n 0, 1) := by decide +kernel
theorem d_Qry_init_61 : decode b_Qry_init 61 = .ok (.bipush 64, 2) := by decide +kernel
theorem d_Qry_init_63 : decode b_Qry_init 63 = .ok (.newarray .int, 2) := by decide +kernel
theorem d_Qry_init_65 : decode b_Qry_init 65 = .ok (.putfield 33, 3) := by decide +kernel
theorem d_Qry_init_68 : decode b_Qry_init 68 = .ok (.aload_n 0, 1) := by decide +kernel
theorem d_Qry_init_69 : decode b_Qry_init 69 = .ok (.bipush 64, 2) := by decide +kernel
theorem d_Qry_init_71 : decode b_Qry_init 71 = .ok (.newarray .long, 2) := by decide +kernel
theorem d_Qry_init_73 : decode b_Qry_init 73 = .ok (.putfield 36, 3) := by decide +kernel
theorem d_Qry_init_76 : decode b_Qry_init 76 = .ok (.aload_n 0, 1) := by decide +kernel
theorem d_Qry_init_77 : decode b_Qry_init 77 = .ok (.sipush 2255, 3) := by decide +kernel
theorem d_Qry_init_80 : decode b_Qry_init 80 = .ok (.newarray .byte, 2) := by decide +kernel
theorem d_Qry_init_82 : decode b_Qry_init 82 = .ok (.putfield 40, 3) := by decide +kernel
theorem d_Qry_init_85 : decode b_Qry_init 85 = .ok (.return_, 1) := by decide +kernel
theorem d_Ans_init_0 : decode b_Ans_init 0 = .ok (.aload_n 0, 1) := by decide +kernel
theorem d_Ans_init_1 : decode b_Ans_init 1 = .ok (.invokespecial 3, 3) := by decide +kernel
theorem d_Ans_init_4 : decode b_Ans_init 4 = .ok (.aload_n 0, 1) := by decide +kernel
theorem d_Ans_init_5 : decode b_Ans_init 5 = .ok (.sipush 128, 3) := by decide +kernel
theorem d_Ans_init_8 : decode b_Ans_init 8 = .ok (.newarray .boolean, 2) := by decide +kernel
theorem d_Ans_init_10 : decode b_Ans_init 10 = .ok (.putfield 9, 3) := by decide +kernel
theorem d_Ans_init_13 : decode b_Ans_init 13 = .ok (.aload_n 0, 1) := by decide +kernel
theorem d_Ans_init_14 : decode b_Ans_init 14 = .ok (.sipush 2000, 3) := by decide +kernel
theorem d_Ans_init_17 : decode b_Ans_init 17 = .ok (.newarray .int, 2) := by decide +kernel
theorem d_Ans_init_19 : decode b_Ans_init 19 = .ok (.putfield 15, 3) := by decide +kernel
theorem d_Ans_init_22 : decode b_Ans_init 22 = .ok (.aload_n 0, 1) := by decide +kernel
theorem d_Ans_init_23 : decode b_Ans_init 23 = .ok (.sipush 8000, 3) := by decide +kernel
theorem d_Ans_init_26 : decode b_Ans_init 26 = .ok (.newarray .byte, 2) := by decide +kernel
theorem d_Ans_init_28 : decode b_Ans_init 28 = .ok (.putfield 19, 3) := by decide +kernel
theorem d_Ans_init_31 : decode b_Ans_init 31 = .ok (.aload_n 0, 1) := by decide +kernel
theorem d_Ans_init_32 : decode b_Ans_init 32 = .ok (.sipush 8000, 3) := by decide +kernel
theorem d_Ans_init_35 : decode b_Ans_init 35 = .ok (.newarray .long, 2) := by decide +kernel
theorem d_Ans_init_37 : decode b_Ans_init 37 = .ok (.putfield 23, 3) := by decide +kernel
theorem d_Ans_init_40 : decode b_Ans_init 40 = .ok (.aload_n 0, 1) := by decide +kernel
theorem d_Ans_init_41 : decode b_Ans_init 41 = .ok (.sipush 1024, 3) := by decide +kernel
theorem d_Ans_init_44 : decode b_Ans_init 44 = .ok (.newarray .int, 2) := by decide +kernel
theorem d_Ans_init_46 : decode b_Ans_init 46 = .ok (.putfield 27, 3) := by decide +kernel
theorem d_Ans_init_49 : decode b_Ans_init 49 = .ok (.aload_n 0, 1) := by decide +kernel
theorem d_Ans_init_50 : decode b_Ans_init 50 = .ok (.bipush 65, 2) := by decide +kernel
theorem d_Ans_init_52 : decode b_Ans_init 52 = .ok (.newarray .int, 2) := by decide +kernel
theorem d_Ans_init_54 : decode b_Ans_init 54 = .ok (.putfield 30, 3) := by decide +kernel
theorem d_Ans_init_57 : decode b_Ans_init 57 = .ok (.aload_n 0, 1) := by decide +kernel
theorem d_Ans_init_58 : decode b_Ans_init 58 = .ok (.bipush 64, 2) := by decide +kernel
theorem d_Ans_init_60 : decode b_Ans_init 60 = .ok (.newarray .int, 2) := by decide +kernel
theorem d_Ans_init_62 : decode b_Ans_init 62 = .ok (.putfield 33, 3) := by decide +kernel
theorem d_Ans_init_65 : decode b_Ans_init 65 = .ok (.aload_n 0, 1) := by decide +kernel
theorem d_Ans_init_66 : decode b_Ans_init 66 = .ok (.bipush 64, 2) := by decide +kernel
theorem d_Ans_init_68 : decode b_Ans_init 68 = .ok (.newarray .boolean, 2) := by decide +kernel
theorem d_Ans_init_70 : decode b_Ans_init 70 = .ok (.putfield 36, 3) := by decide +kernel
theorem d_Ans_init_73 : decode b_Ans_init 73 = .ok (.return_, 1) := by decide +kernel
theorem d_Src_init_0 : decode b_Src_init 0 = .ok (.aload_n 0, 1) := by decide +kernel
theorem d_Src_init_1 : decode b_Src_init 1 = .ok (.invokespecial 3, 3) := by decide +kernel
theorem d_Src_init_4 : decode b_Src_init 4 = .ok (.aload_n 0, 1) := by decide +kernel
theorem d_Src_init_5 : decode b_Src_init 5 = .ok (.iconst 4, 1) := by decide +kernel
theorem d_Src_init_6 : decode b_Src_init 6 = .ok (.newarray .int, 2) := by decide +kernel
theorem d_Src_init_8 : decode b_Src_init 8 = .ok (.putfield 9, 3) := by decide +kernel
theorem d_Src_init_11 : decode b_Src_init 11 = .ok (.aload_n 0, 1) := by decide +kernel
theorem d_Src_init_12 : decode b_Src_init 12 = .ok (.aload_n 1, 1) := by decide +kernel
theorem d_Src_init_13 : decode b_Src_init 13 = .ok (.putfield 15, 3) := by decide +kernel
theorem d_Src_init_16 : decode b_Src_init 16 = .ok (.return_, 1) := by decide +kernel
section
variable (l : Launch) (dC : Nat → ClassId) (dI : Nat → Nat → Nat) (cI cB cJ cZ : ClassId)
set_option maxHeartbeats 4000000 in
set_option maxRecDepth 100000 in
/-- Sink(r): a row of k bytes, four widths -/
theorem c_Snk_init (h0 sz : Nat) (k : Nat) (r : Int32) (hk : ¬ (if (512 : Int32) < r then 512 else r) < 0 ∧ (if (512 : Int32) < r then 512 else r).toNatClampNeg = k ∧ k ≤ 512) : Met l y_Snk_init (wsOf y_Snk_init b_Snk_init 2 none) ({ frames := 1, cells := 2, slots := 516, locals := 15 }) (va_Pc [.ref h0, .int r] (PC dC dI cI cB cJ cZ sz [(h0, .inr (1, [.null, .int 0, .int 0, .int 0, .null, .int 0, .int 0]))])) (va_Qv (fun _ : Unit => True) (fun _ t => ∃ q1 q2 : Nat, va_P (dC, dI) CL [(h0, .inr (1, [.ref q2, .int 0, .int 0, .int r, .ref q1, .int 0, .int 0])), (q1, .inl (cI, 4, .inl (fun _ => 0))), (q2, .inl (cB, k, .inl (fun _ => 0)))] t.heap ∧ va_D (va_A [(h0, .inr (1, [.null, .int 0, .int 0, .int 0, .null, .int 0, .int 0]))] sz) [(h0, .inr (1, [.ref q2, .int 0, .int 0, .int r, .ref q1, .int 0, .int 0])), (q1, .inl (cI, 4, .inl (fun _ => 0))), (q2, .inl (cB, k, .inl (fun _ => 0)))]) (va_A [(h0, .inr (1, [.null, .int 0, .int 0, .int 0, .null, .int 0, .int 0]))] sz)) 2 516 (va_A [(h0, .inr (1, [.null, .int 0, .int 0, .int 0, .null, .int 0, .int 0]))] sz) := by
  refine Met.ofW (cc := b_Snk_init) (maxL := 2) (ret := none) (by decide) rfl ?_
  intro p e s m args below meth c s₁ B hml hv
  obtain ⟨rfl, hsz, hP, hK, hD0, hN⟩ := hv
  have hx := B.exec
  have hb := B.bytes
  have hr := B.returns
  have hts := atoms_spec B.pre
  have hT : ∀ w ∈ TG, w.before _ s = true := fun w h => hts w (List.mem_cons_of_mem _ h)
  have hown : s.vm.findClass R_Snk = some m.cls := findClass_of_methodNamed B.named
  have hlocks := B.notSynchronized
  have hin : meth.name = "<init>" := (name_of_methodNamed B.named B.method).1
  subst hsz
  have hD := hD0.self (sz := s.heap.size)
  generalize hAe : va_A [(h0, .inr (1, [.null, .int 0, .int 0, .int 0, .null, .int 0, .int 0]))] s.heap.size = A at hD ⊢
  have hA : ∀ q : Nat, s.heap.size ≤ q → A q := fun q h => by rw [← hAe]; exact Or.inr h
  have hS : va_S A s.heap s.heap [] := va_S.rf
  have hl := lv_entry ([.ref h0, .int r]) (n := 2) (Nat.le_of_ble_eq_true rfl)
  rw [lg_entry_eq]
  generalize (lg_sl ([.ref h0, .int r]) ++ List.replicate (2 - (lg_sl ([.ref h0, .int r])).length) Slot.unset).toArray = ls at hl ⊢
  have hl : lv_has ls 2 [(0, .ref h0), (1, .int r)] := hl
  have h1 : ¬ (if (512 : Int32) < r then 512 else r) < 0 := hk.1
  have h2 : (if (512 : Int32) < r then 512 else r).toNatClampNeg = k := hk.2.1
  have hk3 : k ≤ 512 := hk.2.2
  have h3 : k * componentBytes .byte ≤ 536870912 := by show k * 1 ≤ 536870912; omega
  refine lv_aload_n hx hb d_Snk_init_0 rfl (lv_at hl 0 rfl) ?_
  refine W.objInit hx hb hown (hT _ w_1_36) (hT _ w_1_28) (hT _ w_obj) rfl (by rw [hml]; exact hl.1) rfl d_Snk_init_1 (Nat.le_of_ble_eq_true rfl) (Nat.le_of_ble_eq_true rfl) ?_
  refine W.eq (g2 := F0 m 4 ls []) rfl ?_
  refine lv_aload_n hx hb d_Snk_init_4 rfl (lv_at hl 0 rfl) ?_
  refine lv_iconst (v := 4) hx hb d_Snk_init_5 (by decide) ?_
  refine nw_int (N' := 4) hx hb hT w_1_69 hK hP hD hS hA (by decide) (by decide) (by decide) (show _ ≤ 2 by omega) (show _ ≤ 516 by omega) d_Snk_init_6 (fun q1 H hP hD hS => ?_)
  have hP : va_P (dC, dI) CL [(h0, .inr (1, [.null, .int 0, .int 0, .int 0, .null, .int 0, .int 0])), (q1, .inl (cI, 4, .inl (fun _ => 0)))] H := hP
  have hD : va_D A [(h0, .inr (1, [.null, .int 0, .int 0, .int 0, .null, .int 0, .int 0])), (q1, .inl (cI, 4, .inl (fun _ => 0)))] := hD
  refine W.widen (k := 1) (n := 4) (by omega) (by omega) ?_
  refine f_putF (D := (dC, dI)) (ci := 1) (v := .ref q1) (ty := .array .int) (C := R_Snk) (T := F_Snk) (N := 7) hx hb hT in_Snk t_Snk t_Snk_ok n_Snk hown hK hP hD hS 0 rfl rfl 4 (by decide) fr_Snk_4 w_1_51 hin (by decide +kernel) rfl rfl (Nat.le_of_ble_eq_true rfl) d_Snk_init_8 (fun H locs hP hD hS => ?_)
  have hP : va_P (dC, dI) CL [(h0, .inr (1, [.null, .int 0, .int 0, .int 0, .ref q1, .int 0, .int 0])), (q1, .inl (cI, 4, .inl (fun _ => 0)))] H := hP
  have hD : va_D A [(h0, .inr (1, [.null, .int 0, .int 0, .int 0, .ref q1, .int 0, .int 0])), (q1, .inl (cI, 4, .inl (fun _ => 0)))] := hD
  refine lv_aload_n hx hb d_Snk_init_11 rfl (lv_at hl 0 rfl) ?_
  refine lv_iload_n hx hb d_Snk_init_12 rfl (lv_at hl 1 rfl) ?_
  refine f_putF (D := (dC, dI)) (ci := 1) (v := .int r) (ty := .int) (C := R_Snk) (T := F_Snk) (N := 7) hx hb hT in_Snk t_Snk t_Snk_ok n_Snk hown hK hP hD hS 0 rfl rfl 3 (by decide) fr_Snk_3 w_1_50 hin (by decide +kernel) rfl rfl (Nat.le_of_ble_eq_true rfl) d_Snk_init_13 (fun H locs hP hD hS => ?_)
  have hP : va_P (dC, dI) CL [(h0, .inr (1, [.null, .int 0, .int 0, .int r, .ref q1, .int 0, .int 0])), (q1, .inl (cI, 4, .inl (fun _ => 0)))] H := hP
  have hD : va_D A [(h0, .inr (1, [.null, .int 0, .int 0, .int r, .ref q1, .int 0, .int 0])), (q1, .inl (cI, 4, .inl (fun _ => 0)))] := hD
  refine lv_aload_n hx hb d_Snk_init_16 rfl (lv_at hl 0 rfl) ?_
  refine lv_iload_n hx hb d_Snk_init_17 rfl (lv_at hl 1 rfl) ?_
  refine lv_sipush (v := 512) hx hb d_Snk_init_18 (by decide) ?_
  refine va_mmin hx hb (hml.trans hl.1.symm) hown (hT _ w_1_37) (hT _ w_1_38) (hT _ w_1_3) (hT _ w_1_39) (Nat.le_of_ble_eq_true rfl) (Nat.le_of_ble_eq_true rfl) (show _ ≤ 2 by omega) (show _ ≤ 516 by omega) d_Snk_init_21 ?_
  refine nw_byte (N' := k) hx hb hT w_1_70 hK hP hD hS hA h1 h2 h3 (show _ ≤ 2 by omega) (show _ ≤ 516 by omega) d_Snk_init_24 (fun q2 H hP hD hS => ?_)
  have hP : va_P (dC, dI) CL [(h0, .inr (1, [.null, .int 0, .int 0, .int r, .ref q1, .int 0, .int 0])), (q1, .inl (cI, 4, .inl (fun _ => 0))), (q2, .inl (cB, k, .inl (fun _ => 0)))] H := hP
  have hD : va_D A [(h0, .inr (1, [.null, .int 0, .int 0, .int r, .ref q1, .int 0, .int 0])), (q1, .inl (cI, 4, .inl (fun _ => 0))), (q2, .inl (cB, k, .inl (fun _ => 0)))] := hD
  refine W.widen (k := 2) (n := 4 + k) (by omega) (by omega) ?_
  refine f_put (D := (dC, dI)) (ci := 1) (v := .ref q2) (ty := .array .byte) (C := R_Snk) (T := F_Snk) (N := 7) hx hb hT in_Snk t_Snk t_Snk_ok n_Snk hown hK hP hD hS 0 rfl rfl 0 (by decide) fr_Snk_0 w_1_40 (by decide +kernel) rfl rfl (Nat.le_of_ble_eq_true rfl) d_Snk_init_26 (fun H locs hP hD hS => ?_)
  have hP : va_P (dC, dI) CL [(h0, .inr (1, [.ref q2, .int 0, .int 0, .int r, .ref q1, .int 0, .int 0])), (q1, .inl (cI, 4, .inl (fun _ => 0))), (q2, .inl (cB, k, .inl (fun _ => 0)))] H := hP
  have hD : va_D A [(h0, .inr (1, [.ref q2, .int 0, .int 0, .int r, .ref q1, .int 0, .int 0])), (q1, .inl (cI, 4, .inl (fun _ => 0))), (q2, .inl (cB, k, .inl (fun _ => 0)))] := hD
  refine W.widen (k := 2) (n := 516) (by omega) (by omega) ?_
  exact W.vret hx hb hr (fun t ht hW => ⟨⟨(), rfl, trivial, ⟨q1, q2, by rw [ht]; exact hP, hD⟩⟩, hS.F ht⟩) hS.2.2 d_Snk_init_29
set_option maxHeartbeats 4000000 in
set_option maxRecDepth 100000 in
/-- Scn_init -/
theorem c_Scn_init (h0 sz : Nat) : Met l y_Scn_init (wsOf y_Scn_init b_Scn_init 1 none) ({ frames := 1, cells := 1, slots := 0, locals := 14 }) (va_Pc [.ref h0] (PC dC dI cI cB cJ cZ sz [(h0, .inr (2, [.null, .int 0, .int 0, .int 0, .int 0, .int 0, .long 0, .int 0]))])) (va_Qv (fun _ : Unit => True) (fun _ t => ∃ q1 : Nat, va_P (dC, dI) CL [(h0, .inr (2, [.ref q1, .int 0, .int 0, .int (-1), .int 0, .int 0, .long 0, .int 0])), (q1, .inl (cB, 0, .inl (fun _ => 0)))] t.heap ∧ va_D (va_A [(h0, .inr (2, [.null, .int 0, .int 0, .int 0, .int 0, .int 0, .long 0, .int 0]))] sz) [(h0, .inr (2, [.ref q1, .int 0, .int 0, .int (-1), .int 0, .int 0, .long 0, .int 0])), (q1, .inl (cB, 0, .inl (fun _ => 0)))]) (va_A [(h0, .inr (2, [.null, .int 0, .int 0, .int 0, .int 0, .int 0, .long 0, .int 0]))] sz)) 1 0 (va_A [(h0, .inr (2, [.null, .int 0, .int 0, .int 0, .int 0, .int 0, .long 0, .int 0]))] sz) := by
  refine Met.ofW (cc := b_Scn_init) (maxL := 1) (ret := none) (by decide) rfl ?_
  intro p e s m args below meth c s₁ B hml hv
  obtain ⟨rfl, hsz, hP, hK, hD0, hN⟩ := hv
  have hx := B.exec
  have hb := B.bytes
  have hr := B.returns
  have hts := atoms_spec B.pre
  have hT : ∀ w ∈ TG, w.before _ s = true := fun w h => hts w (List.mem_cons_of_mem _ h)
  have hown : s.vm.findClass R_Scn = some m.cls := findClass_of_methodNamed B.named
  have hlocks := B.notSynchronized
  have hin : meth.name = "<init>" := (name_of_methodNamed B.named B.method).1
  subst hsz
  have hD := hD0.self (sz := s.heap.size)
  generalize hAe : va_A [(h0, .inr (2, [.null, .int 0, .int 0, .int 0, .int 0, .int 0, .long 0, .int 0]))] s.heap.size = A at hD ⊢
  have hA : ∀ q : Nat, s.heap.size ≤ q → A q := fun q h => by rw [← hAe]; exact Or.inr h
  have hS : va_S A s.heap s.heap [] := va_S.rf
  have hl := lv_entry ([.ref h0]) (n := 1) (Nat.le_of_ble_eq_true rfl)
  rw [lg_entry_eq]
  generalize (lg_sl ([.ref h0]) ++ List.replicate (1 - (lg_sl ([.ref h0])).length) Slot.unset).toArray = ls at hl ⊢
  have hl : lv_has ls 1 [(0, .ref h0)] := hl
  refine lv_aload_n hx hb d_Scn_init_0 rfl (lv_at hl 0 rfl) ?_
  refine W.objInit hx hb hown (hT _ w_1_76) (hT _ w_1_28) (hT _ w_obj) rfl (by rw [hml]; exact hl.1) rfl d_Scn_init_1 (Nat.le_of_ble_eq_true rfl) (Nat.le_of_ble_eq_true rfl) ?_
  refine W.eq (g2 := F0 m 4 ls []) rfl ?_
  refine lv_aload_n hx hb d_Scn_init_4 rfl (lv_at hl 0 rfl) ?_
  refine lv_iconst (v := 0) hx hb d_Scn_init_5 (by decide) ?_
  refine nw_byte (N' := 0) hx hb hT w_1_70 hK hP hD hS hA (by decide) (by decide) (by decide) (show _ ≤ 1 by omega) (show _ ≤ 0 by omega) d_Scn_init_6 (fun q1 H hP hD hS => ?_)
  have hP : va_P (dC, dI) CL [(h0, .inr (2, [.null, .int 0, .int 0, .int 0, .int 0, .int 0, .long 0, .int 0])), (q1, .inl (cB, 0, .inl (fun _ => 0)))] H := hP
  have hD : va_D A [(h0, .inr (2, [.null, .int 0, .int 0, .int 0, .int 0, .int 0, .long 0, .int 0])), (q1, .inl (cB, 0, .inl (fun _ => 0)))] := hD
  refine W.widen (k := 1) (n := 0) (by omega) (by omega) ?_
  refine f_put (D := (dC, dI)) (ci := 2) (v := .ref q1) (ty := .array .byte) (C := R_Scn) (T := F_Scn) (N := 8) hx hb hT in_Scn t_Scn t_Scn_ok n_Scn hown hK hP hD hS 0 rfl rfl 0 (by decide) fr_Scn_0 w_1_77 (by decide +kernel) rfl rfl (Nat.le_of_ble_eq_true rfl) d_Scn_init_8 (fun H locs hP hD hS => ?_)
  have hP : va_P (dC, dI) CL [(h0, .inr (2, [.ref q1, .int 0, .int 0, .int 0, .int 0, .int 0, .long 0, .int 0])), (q1, .inl (cB, 0, .inl (fun _ => 0)))] H := hP
  have hD : va_D A [(h0, .inr (2, [.ref q1, .int 0, .int 0, .int 0, .int 0, .int 0, .long 0, .int 0])), (q1, .inl (cB, 0, .inl (fun _ => 0)))] := hD
  refine lv_aload_n hx hb d_Scn_init_11 rfl (lv_at hl 0 rfl) ?_
  refine lv_iconst (v := (-1)) hx hb d_Scn_init_12 (by decide) ?_
  refine f_put (D := (dC, dI)) (ci := 2) (v := .int (-1)) (ty := .int) (C := R_Scn) (T := F_Scn) (N := 8) hx hb hT in_Scn t_Scn t_Scn_ok n_Scn hown hK hP hD hS 0 rfl rfl 3 (by decide) fr_Scn_3 w_1_89 (by decide +kernel) rfl rfl (Nat.le_of_ble_eq_true rfl) d_Scn_init_13 (fun H locs hP hD hS => ?_)
  have hP : va_P (dC, dI) CL [(h0, .inr (2, [.ref q1, .int 0, .int 0, .int (-1), .int 0, .int 0, .long 0, .int 0])), (q1, .inl (cB, 0, .inl (fun _ => 0)))] H := hP
  have hD : va_D A [(h0, .inr (2, [.ref q1, .int 0, .int 0, .int (-1), .int 0, .int 0, .long 0, .int 0])), (q1, .inl (cB, 0, .inl (fun _ => 0)))] := hD
  refine W.widen (k := 1) (n := 0) (by omega) (by omega) ?_
  exact W.vret hx hb hr (fun t ht hW => ⟨⟨(), rfl, trivial, ⟨q1, by rw [ht]; exact hP, hD⟩⟩, hS.F ht⟩) hS.2.2 d_Scn_init_16
set_option maxHeartbeats 4000000 in
set_option maxRecDepth 100000 in
/-- Sch_init -/
theorem c_Sch_init (h0 sz : Nat) : Met l y_Sch_init (wsOf y_Sch_init b_Sch_init 1 none) ({ frames := 1, cells := 11, slots := 3264, locals := 14 }) (va_Pc [.ref h0] (PC dC dI cI cB cJ cZ sz [(h0, .inr (3, [.int 0, .int 0, .null, .null, .null, .null, .null, .null, .null, .null, .null, .null, .null]))])) (va_Qv (fun _ : Unit => True) (fun _ t => ∃ q1 q2 q3 q4 q5 q6 q7 q8 q9 q10 q11 : Nat, va_P (dC, dI) CL [(h0, .inr (3, [.int 0, .int 0, .ref q1, .ref q2, .ref q3, .ref q4, .ref q5, .ref q6, .ref q7, .ref q8, .ref q9, .ref q10, .ref q11])), (q1, .inl (cI, 128, .inl (fun _ => 0))), (q2, .inl (cI, 128, .inl (fun _ => 0))), (q3, .inl (cI, 128, .inl (fun _ => 0))), (q4, .inl (cI, 128, .inl (fun _ => 0))), (q5, .inl (cI, 128, .inl (fun _ => 0))), (q6, .inl (cI, 128, .inl (fun _ => 0))), (q7, .inl (cI, 128, .inl (fun _ => 0))), (q8, .inl (cI, 128, .inl (fun _ => 0))), (q9, .inl (cI, 64, .inl (fun _ => 0))), (q10, .inl (cI, 128, .inl (fun _ => 0))), (q11, .inl (cB, 2048, .inl (fun _ => 0)))] t.heap ∧ va_D (va_A [(h0, .inr (3, [.int 0, .int 0, .null, .null, .null, .null, .null, .null, .null, .null, .null, .null, .null]))] sz) [(h0, .inr (3, [.int 0, .int 0, .ref q1, .ref q2, .ref q3, .ref q4, .ref q5, .ref q6, .ref q7, .ref q8, .ref q9, .ref q10, .ref q11])), (q1, .inl (cI, 128, .inl (fun _ => 0))), (q2, .inl (cI, 128, .inl (fun _ => 0))), (q3, .inl (cI, 128, .inl (fun _ => 0))), (q4, .inl (cI, 128, .inl (fun _ => 0))), (q5, .inl (cI, 128, .inl (fun _ => 0))), (q6, .inl (cI, 128, .inl (fun _ => 0))), (q7, .inl (cI, 128, .inl (fun _ => 0))), (q8, .inl (cI, 128, .inl (fun _ => 0))), (q9, .inl (cI, 64, .inl (fun _ => 0))), (q10, .inl (cI, 128, .inl (fun _ => 0))), (q11, .inl (cB, 2048, .inl (fun _ => 0)))]) (va_A [(h0, .inr (3, [.int 0, .int 0, .null, .null, .null, .null, .null, .null, .null, .null, .null, .null, .null]))] sz)) 11 3264 (va_A [(h0, .inr (3, [.int 0, .int 0, .null, .null, .null, .null, .null, .null, .null, .null, .null, .null, .null]))] sz) := by
  refine Met.ofW (cc := b_Sch_init) (maxL := 1) (ret := none) (by decide) rfl ?_
  intro p e s m args below meth c s₁ B hml hv
  obtain ⟨rfl, hsz, hP, hK, hD0, hN⟩ := hv
  have hx := B.exec
  have hb := B.bytes
  have hr := B.returns
  have hts := atoms_spec B.pre
  have hT : ∀ w ∈ TG, w.before _ s = true := fun w h => hts w (List.mem_cons_of_mem _ h)
  have hown : s.vm.findClass R_Sch = some m.cls := findClass_of_methodNamed B.named
  have hlocks := B.notSynchronized
  have hin : meth.name = "<init>" := (name_of_methodNamed B.named B.method).1
  subst hsz
  have hD := hD0.self (sz := s.heap.size)
  generalize hAe : va_A [(h0, .inr (3, [.int 0, .int 0, .null, .null, .null, .null, .null, .null, .null, .null, .null, .null, .null]))] s.heap.size = A at hD ⊢
  have hA : ∀ q : Nat, s.heap.size ≤ q → A q := fun q h => by rw [← hAe]; exact Or.inr h
  have hS : va_S A s.heap s.heap [] := va_S.rf
  have hl := lv_entry ([.ref h0]) (n := 1) (Nat.le_of_ble_eq_true rfl)
  rw [lg_entry_eq]
  generalize (lg_sl ([.ref h0]) ++ List.replicate (1 - (lg_sl ([.ref h0])).length) Slot.unset).toArray = ls at hl ⊢
  have hl : lv_has ls 1 [(0, .ref h0)] := hl
  refine lv_aload_n hx hb d_Sch_init_0 rfl (lv_at hl 0 rfl) ?_
  refine W.objInit hx hb hown (hT _ w_1_129) (hT _ w_1_28) (hT _ w_obj) rfl (by rw [hml]; exact hl.1) rfl d_Sch_init_1 (Nat.le_of_ble_eq_true rfl) (Nat.le_of_ble_eq_true rfl) ?_
  refine W.eq (g2 := F0 m 4 ls []) rfl ?_
  refine lv_aload_n hx hb d_Sch_init_4 rfl (lv_at hl 0 rfl) ?_
  refine lv_sipush (v := 128) hx hb d_Sch_init_5 (by decide) ?_
  refine nw_int (N' := 128) hx hb hT w_1_69 hK hP hD hS hA (by decide) (by decide) (by decide) (show _ ≤ 11 by omega) (show _ ≤ 3264 by omega) d_Sch_init_8 (fun q1 H hP hD hS => ?_)
  have hP : va_P (dC, dI) CL [(h0, .inr (3, [.int 0, .int 0, .null, .null, .null, .null, .null, .null, .null, .null, .null, .null, .null])), (q1, .inl (cI, 128, .inl (fun _ => 0)))] H := hP
  have hD : va_D A [(h0, .inr (3, [.int 0, .int 0, .null, .null, .null, .null, .null, .null, .null, .null, .null, .null, .null])), (q1, .inl (cI, 128, .inl (fun _ => 0)))] := hD
  refine W.widen (k := 1) (n := 128) (by omega) (by omega) ?_
  refine f_putF (D := (dC, dI)) (ci := 3) (v := .ref q1) (ty := .array .int) (C := R_Sch) (T := F_Sch) (N := 13) hx hb hT in_Sch t_Sch t_Sch_ok n_Sch hown hK hP hD hS 0 rfl rfl 2 (by decide) fr_Sch_2 w_1_140 hin (by decide +kernel) rfl rfl (Nat.le_of_ble_eq_true rfl) d_Sch_init_10 (fun H locs hP hD hS => ?_)
  have hP : va_P (dC, dI) CL [(h0, .inr (3, [.int 0, .int 0, .ref q1, .null, .null, .null, .null, .null, .null, .null, .null, .null, .null])), (q1, .inl (cI, 128, .inl (fun _ => 0)))] H := hP
  have hD : va_D A [(h0, .inr (3, [.int 0, .int 0, .ref q1, .null, .null, .null, .null, .null, .null, .null, .null, .null, .null])), (q1, .inl (cI, 128, .inl (fun _ => 0)))] := hD
  refine lv_aload_n hx hb d_Sch_init_13 rfl (lv_at hl 0 rfl) ?_
  refine lv_sipush (v := 128) hx hb d_Sch_init_14 (by decide) ?_
  refine nw_int (N' := 128) hx hb hT w_1_69 hK hP hD hS hA (by decide) (by decide) (by decide) (show _ ≤ 11 by omega) (show _ ≤ 3264 by omega) d_Sch_init_17 (fun q2 H hP hD hS => ?_)
  have hP : va_P (dC, dI) CL [(h0, .inr (3, [.int 0, .int 0, .ref q1, .null, .null, .null, .null, .null, .null, .null, .null, .null, .null])), (q1, .inl (cI, 128, .inl (fun _ => 0))), (q2, .inl (cI, 128, .inl (fun _ => 0)))] H := hP
  have hD : va_D A [(h0, .inr (3, [.int 0, .int 0, .ref q1, .null, .null, .null, .null, .null, .null, .null, .null, .null, .null])), (q1, .inl (cI, 128, .inl (fun _ => 0))), (q2, .inl (cI, 128, .inl (fun _ => 0)))] := hD
  refine W.widen (k := 2) (n := 256) (by omega) (by omega) ?_
  refine f_putF (D := (dC, dI)) (ci := 3) (v := .ref q2) (ty := .array .int) (C := R_Sch) (T := F_Sch) (N := 13) hx hb hT in_Sch t_Sch t_Sch_ok n_Sch hown hK hP hD hS 0 rfl rfl 3 (by decide) fr_Sch_3 w_1_145 hin (by decide +kernel) rfl rfl (Nat.le_of_ble_eq_true rfl) d_Sch_init_19 (fun H locs hP hD hS => ?_)
  have hP : va_P (dC, dI) CL [(h0, .inr (3, [.int 0, .int 0, .ref q1, .ref q2, .null, .null, .null, .null, .null, .null, .null, .null, .null])), (q1, .inl (cI, 128, .inl (fun _ => 0))), (q2, .inl (cI, 128, .inl (fun _ => 0)))] H := hP
  have hD : va_D A [(h0, .inr (3, [.int 0, .int 0, .ref q1, .ref q2, .null, .null, .null, .null, .null, .null, .null, .null, .null])), (q1, .inl (cI, 128, .inl (fun _ => 0))), (q2, .inl (cI, 128, .inl (fun _ => 0)))] := hD
  refine lv_aload_n hx hb d_Sch_init_22 rfl (lv_at hl 0 rfl) ?_
  refine lv_sipush (v := 128) hx hb d_Sch_init_23 (by decide) ?_
  refine nw_int (N' := 128) hx hb hT w_1_69 hK hP hD hS hA (by decide) (by decide) (by decide) (show _ ≤ 11 by omega) (show _ ≤ 3264 by omega) d_Sch_init_26 (fun q3 H hP hD hS => ?_)
  have hP : va_P (dC, dI) CL [(h0, .inr (3, [.int 0, .int 0, .ref q1, .ref q2, .null, .null, .null, .null, .null, .null, .null, .null, .null])), (q1, .inl (cI, 128, .inl (fun _ => 0))), (q2, .inl (cI, 128, .inl (fun _ => 0))), (q3, .inl (cI, 128, .inl (fun _ => 0)))] H := hP
  have hD : va_D A [(h0, .inr (3, [.int 0, .int 0, .ref q1, .ref q2, .null, .null, .null, .null, .null, .null, .null, .null, .null])), (q1, .inl (cI, 128, .inl (fun _ => 0))), (q2, .inl (cI, 128, .inl (fun _ => 0))), (q3, .inl (cI, 128, .inl (fun _ => 0)))] := hD
  refine W.widen (k := 3) (n := 384) (by omega) (by omega) ?_
  refine f_putF (D := (dC, dI)) (ci := 3) (v := .ref q3) (ty := .array .int) (C := R_Sch) (T := F_Sch) (N := 13) hx hb hT in_Sch t_Sch t_Sch_ok n_Sch hown hK hP hD hS 0 rfl rfl 4 (by decide) fr_Sch_4 w_1_152 hin (by decide +kernel) rfl rfl (Nat.le_of_ble_eq_true rfl) d_Sch_init_28 (fun H locs hP hD hS => ?_)
  have hP : va_P (dC, dI) CL [(h0, .inr (3, [.int 0, .int 0, .ref q1, .ref q2, .ref q3, .null, .null, .null, .null, .null, .null, .null, .null])), (q1, .inl (cI, 128, .inl (fun _ => 0))), (q2, .inl (cI, 128, .inl (fun _ => 0))), (q3, .inl (cI, 128, .inl (fun _ => 0)))] H := hP
  have hD : va_D A [(h0, .inr (3, [.int 0, .int 0, .ref q1, .ref q2, .ref q3, .null, .null, .null, .null, .null, .null, .null, .null])), (q1, .inl (cI, 128, .inl (fun _ => 0))), (q2, .inl (cI, 128, .inl (fun _ => 0))), (q3, .inl (cI, 128, .inl (fun _ => 0)))] := hD
  refine lv_aload_n hx hb d_Sch_init_31 rfl (lv_at hl 0 rfl) ?_
  refine lv_sipush (v := 128) hx hb d_Sch_init_32 (by decide) ?_
  refine nw_int (N' := 128) hx hb hT w_1_69 hK hP hD hS hA (by decide) (by decide) (by decide) (show _ ≤ 11 by omega) (show _ ≤ 3264 by omega) d_Sch_init_35 (fun q4 H hP hD hS => ?_)
  have hP : va_P (dC, dI) CL [(h0, .inr (3, [.int 0, .int 0, .ref q1, .ref q2, .ref q3, .null, .null, .null, .null, .null, .null, .null, .null])), (q1, .inl (cI, 128, .inl (fun _ => 0))), (q2, .inl (cI, 128, .inl (fun _ => 0))), (q3, .inl (cI, 128, .inl (fun _ => 0))), (q4, .inl (cI, 128, .inl (fun _ => 0)))] H := hP
  have hD : va_D A [(h0, .inr (3, [.int 0, .int 0, .ref q1, .ref q2, .ref q3, .null, .null, .null, .null, .null, .null, .null, .null])), (q1, .inl (cI, 128, .inl (fun _ => 0))), (q2, .inl (cI, 128, .inl (fun _ => 0))), (q3, .inl (cI, 128, .inl (fun _ => 0))), (q4, .inl (cI, 128, .inl (fun _ => 0)))] := hD
  refine W.widen (k := 4) (n := 512) (by omega) (by omega) ?_
  refine f_putF (D := (dC, dI)) (ci := 3) (v := .ref q4) (ty := .array .int) (C := R_Sch) (T := F_Sch) (N := 13) hx hb hT in_Sch t_Sch t_Sch_ok n_Sch hown hK hP hD hS 0 rfl rfl 5 (by decide) fr_Sch_5 w_1_157 hin (by decide +kernel) rfl rfl (Nat.le_of_ble_eq_true rfl) d_Sch_init_37 (fun H locs hP hD hS => ?_)
  have hP : va_P (dC, dI) CL [(h0, .inr (3, [.int 0, .int 0, .ref q1, .ref q2, .ref q3, .ref q4, .null, .null, .null, .null, .null, .null, .null])), (q1, .inl (cI, 128, .inl (fun _ => 0))), (q2, .inl (cI, 128, .inl (fun _ => 0))), (q3, .inl (cI, 128, .inl (fun _ => 0))), (q4, .inl (cI, 128, .inl (fun _ => 0)))] H := hP
  have hD : va_D A [(h0, .inr (3, [.int 0, .int 0, .ref q1, .ref q2, .ref q3, .ref q4, .null, .null, .null, .null, .null, .null, .null])), (q1, .inl (cI, 128, .inl (fun _ => 0))), (q2, .inl (cI, 128, .inl (fun _ => 0))), (q3, .inl (cI, 128, .inl (fun _ => 0))), (q4, .inl (cI, 128, .inl (fun _ => 0)))] := hD
  refine lv_aload_n hx hb d_Sch_init_40 rfl (lv_at hl 0 rfl) ?_
  refine lv_sipush (v := 128) hx hb d_Sch_init_41 (by decide) ?_
  refine nw_int (N' := 128) hx hb hT w_1_69 hK hP hD hS hA (by decide) (by decide) (by decide) (show _ ≤ 11 by omega) (show _ ≤ 3264 by omega) d_Sch_init_44 (fun q5 H hP hD hS => ?_)
  have hP : va_P (dC, dI) CL [(h0, .inr (3, [.int 0, .int 0, .ref q1, .ref q2, .ref q3, .ref q4, .null, .null, .null, .null, .null, .null, .null])), (q1, .inl (cI, 128, .inl (fun _ => 0))), (q2, .inl (cI, 128, .inl (fun _ => 0))), (q3, .inl (cI, 128, .inl (fun _ => 0))), (q4, .inl (cI, 128, .inl (fun _ => 0))), (q5, .inl (cI, 128, .inl (fun _ => 0)))] H := hP
  have hD : va_D A [(h0, .inr (3, [.int 0, .int 0, .ref q1, .ref q2, .ref q3, .ref q4, .null, .null, .null, .null, .null, .null, .null])), (q1, .inl (cI, 128, .inl (fun _ => 0))), (q2, .inl (cI, 128, .inl (fun _ => 0))), (q3, .inl (cI, 128, .inl (fun _ => 0))), (q4, .inl (cI, 128, .inl (fun _ => 0))), (q5, .inl (cI, 128, .inl (fun _ => 0)))] := hD
  refine W.widen (k := 5) (n := 640) (by omega) (by omega) ?_
  refine f_putF (D := (dC, dI)) (ci := 3) (v := .ref q5) (ty := .array .int) (C := R_Sch) (T := F_Sch) (N := 13) hx hb hT in_Sch t_Sch t_Sch_ok n_Sch hown hK hP hD hS 0 rfl rfl 6 (by decide) fr_Sch_6 w_1_162 hin (by decide +kernel) rfl rfl (Nat.le_of_ble_eq_true rfl) d_Sch_init_46 (fun H locs hP hD hS => ?_)
  have hP : va_P (dC, dI) CL [(h0, .inr (3, [.int 0, .int 0, .ref q1, .ref q2, .ref q3, .ref q4, .ref q5, .null, .null, .null, .null, .null, .null])), (q1, .inl (cI, 128, .inl (fun _ => 0))), (q2, .inl (cI, 128, .inl (fun _ => 0))), (q3, .inl (cI, 128, .inl (fun _ => 0))), (q4, .inl (cI, 128, .inl (fun _ => 0))), (q5, .inl (cI, 128, .inl (fun _ => 0)))] H := hP
  have hD : va_D A [(h0, .inr (3, [.int 0, .int 0, .ref q1, .ref q2, .ref q3, .ref q4, .ref q5, .null, .null, .null, .null, .null, .null])), (q1, .inl (cI, 128, .inl (fun _ => 0))), (q2, .inl (cI, 128, .inl (fun _ => 0))), (q3, .inl (cI, 128, .inl (fun _ => 0))), (q4, .inl (cI, 128, .inl (fun _ => 0))), (q5, .inl (cI, 128, .inl (fun _ => 0)))] := hD
  refine lv_aload_n hx hb d_Sch_init_49 rfl (lv_at hl 0 rfl) ?_
  refine lv_sipush (v := 128) hx hb d_Sch_init_50 (by decide) ?_
  refine nw_int (N' := 128) hx hb hT w_1_69 hK hP hD hS hA (by decide) (by decide) (by decide) (show _ ≤ 11 by omega) (show _ ≤ 3264 by omega) d_Sch_init_53 (fun q6 H hP hD hS => ?_)
  have hP : va_P (dC, dI) CL [(h0, .inr (3, [.int 0, .int 0, .ref q1, .ref q2, .ref q3, .ref q4, .ref q5, .null, .null, .null, .null, .null, .null])), (q1, .inl (cI, 128, .inl (fun _ => 0))), (q2, .inl (cI, 128, .inl (fun _ => 0))), (q3, .inl (cI, 128, .inl (fun _ => 0))), (q4, .inl (cI, 128, .inl (fun _ => 0))), (q5, .inl (cI, 128, .inl (fun _ => 0))), (q6, .inl (cI, 128, .inl (fun _ => 0)))] H := hP
  have hD : va_D A [(h0, .inr (3, [.int 0, .int 0, .ref q1, .ref q2, .ref q3, .ref q4, .ref q5, .null, .null, .null, .null, .null, .null])), (q1, .inl (cI, 128, .inl (fun _ => 0))), (q2, .inl (cI, 128, .inl (fun _ => 0))), (q3, .inl (cI, 128, .inl (fun _ => 0))), (q4, .inl (cI, 128, .inl (fun _ => 0))), (q5, .inl (cI, 128, .inl (fun _ => 0))), (q6, .inl (cI, 128, .inl (fun _ => 0)))] := hD
  refine W.widen (k := 6) (n := 768) (by omega) (by omega) ?_
  refine f_putF (D := (dC, dI)) (ci := 3) (v := .ref q6) (ty := .array .int) (C := R_Sch) (T := F_Sch) (N := 13) hx hb hT in_Sch t_Sch t_Sch_ok n_Sch hown hK hP hD hS 0 rfl rfl 7 (by decide) fr_Sch_7 w_1_168 hin (by decide +kernel) rfl rfl (Nat.le_of_ble_eq_true rfl) d_Sch_init_55 (fun H locs hP hD hS => ?_)
  have hP : va_P (dC, dI) CL [(h0, .inr (3, [.int 0, .int 0, .ref q1, .ref q2, .ref q3, .ref q4, .ref q5, .ref q6, .null, .null, .null, .null, .null])), (q1, .inl (cI, 128, .inl (fun _ => 0))), (q2, .inl (cI, 128, .inl (fun _ => 0))), (q3, .inl (cI, 128, .inl (fun _ => 0))), (q4, .inl (cI, 128, .inl (fun _ => 0))), (q5, .inl (cI, 128, .inl (fun _ => 0))), (q6, .inl (cI, 128, .inl (fun _ => 0)))] H := hP
  have hD : va_D A [(h0, .inr (3, [.int 0, .int 0, .ref q1, .ref q2, .ref q3, .ref q4, .ref q5, .ref q6, .null, .null, .null, .null, .null])), (q1, .inl (cI, 128, .inl (fun _ => 0))), (q2, .inl (cI, 128, .inl (fun _ => 0))), (q3, .inl (cI, 128, .inl (fun _ => 0))), (q4, .inl (cI, 128, .inl (fun _ => 0))), (q5, .inl (cI, 128, .inl (fun _ => 0))), (q6, .inl (cI, 128, .inl (fun _ => 0)))] := hD
  refine lv_aload_n hx hb d_Sch_init_58 rfl (lv_at hl 0 rfl) ?_
  refine lv_sipush (v := 128) hx hb d_Sch_init_59 (by decide) ?_
  refine nw_int (N' := 128) hx hb hT w_1_69 hK hP hD hS hA (by decide) (by decide) (by decide) (show _ ≤ 11 by omega) (show _ ≤ 3264 by omega) d_Sch_init_62 (fun q7 H hP hD hS => ?_)
  have hP : va_P (dC, dI) CL [(h0, .inr (3, [.int 0, .int 0, .ref q1, .ref q2, .ref q3, .ref q4, .ref q5, .ref q6, .null, .null, .null, .null, .null])), (q1, .inl (cI, 128, .inl (fun _ => 0))), (q2, .inl (cI, 128, .inl (fun _ => 0))), (q3, .inl (cI, 128, .inl (fun _ => 0))), (q4, .inl (cI, 128, .inl (fun _ => 0))), (q5, .inl (cI, 128, .inl (fun _ => 0))), (q6, .inl (cI, 128, .inl (fun _ => 0))), (q7, .inl (cI, 128, .inl (fun _ => 0)))] H := hP
  have hD : va_D A [(h0, .inr (3, [.int 0, .int 0, .ref q1, .ref q2, .ref q3, .ref q4, .ref q5, .ref q6, .null, .null, .null, .null, .null])), (q1, .inl (cI, 128, .inl (fun _ => 0))), (q2, .inl (cI, 128, .inl (fun _ => 0))), (q3, .inl (cI, 128, .inl (fun _ => 0))), (q4, .inl (cI, 128, .inl (fun _ => 0))), (q5, .inl (cI, 128, .inl (fun _ => 0))), (q6, .inl (cI, 128, .inl (fun _ => 0))), (q7, .inl (cI, 128, .inl (fun _ => 0)))] := hD
  refine W.widen (k := 7) (n := 896) (by omega) (by omega) ?_
  refine f_putF (D := (dC, dI)) (ci := 3) (v := .ref q7) (ty := .array .int) (C := R_Sch) (T := F_Sch) (N := 13) hx hb hT in_Sch t_Sch t_Sch_ok n_Sch hown hK hP hD hS 0 rfl rfl 8 (by decide) fr_Sch_8 w_1_169 hin (by decide +kernel) rfl rfl (Nat.le_of_ble_eq_true rfl) d_Sch_init_64 (fun H locs hP hD hS => ?_)
  have hP : va_P (dC, dI) CL [(h0, .inr (3, [.int 0, .int 0, .ref q1, .ref q2, .ref q3, .ref q4, .ref q5, .ref q6, .ref q7, .null, .null, .null, .null])), (q1, .inl (cI, 128, .inl (fun _ => 0))), (q2, .inl (cI, 128, .inl (fun _ => 0))), (q3, .inl (cI, 128, .inl (fun _ => 0))), (q4, .inl (cI, 128, .inl (fun _ => 0))), (q5, .inl (cI, 128, .inl (fun _ => 0))), (q6, .inl (cI, 128, .inl (fun _ => 0))), (q7, .inl (cI, 128, .inl (fun _ => 0)))] H := hP
  have hD : va_D A [(h0, .inr (3, [.int 0, .int 0, .ref q1, .ref q2, .ref q3, .ref q4, .ref q5, .ref q6, .ref q7, .null, .null, .null, .null])), (q1, .inl (cI, 128, .inl (fun _ => 0))), (q2, .inl (cI, 128, .inl (fun _ => 0))), (q3, .inl (cI, 128, .inl (fun _ => 0))), (q4, .inl (cI, 128, .inl (fun _ => 0))), (q5, .inl (cI, 128, .inl (fun _ => 0))), (q6, .inl (cI, 128, .inl (fun _ => 0))), (q7, .inl (cI, 128, .inl (fun _ => 0)))] := hD
  refine lv_aload_n hx hb d_Sch_init_67 rfl (lv_at hl 0 rfl) ?_
  refine lv_sipush (v := 128) hx hb d_Sch_init_68 (by decide) ?_
  refine nw_int (N' := 128) hx hb hT w_1_69 hK hP hD hS hA (by decide) (by decide) (by decide) (show _ ≤ 11 by omega) (show _ ≤ 3264 by omega) d_Sch_init_71 (fun q8 H hP hD hS => ?_)
  have hP : va_P (dC, dI) CL [(h0, .inr (3, [.int 0, .int 0, .ref q1, .ref q2, .ref q3, .ref q4, .ref q5, .ref q6, .ref q7, .null, .null, .null, .null])), (q1, .inl (cI, 128, .inl (fun _ => 0))), (q2, .inl (cI, 128, .inl (fun _ => 0))), (q3, .inl (cI, 128, .inl (fun _ => 0))), (q4, .inl (cI, 128, .inl (fun _ => 0))), (q5, .inl (cI, 128, .inl (fun _ => 0))), (q6, .inl (cI, 128, .inl (fun _ => 0))), (q7, .inl (cI, 128, .inl (fun _ => 0))), (q8, .inl (cI, 128, .inl (fun _ => 0)))] H := hP
  have hD : va_D A [(h0, .inr (3, [.int 0, .int 0, .ref q1, .ref q2, .ref q3, .ref q4, .ref q5, .ref q6, .ref q7, .null, .null, .null, .null])), (q1, .inl (cI, 128, .inl (fun _ => 0))), (q2, .inl (cI, 128, .inl (fun _ => 0))), (q3, .inl (cI, 128, .inl (fun _ => 0))), (q4, .inl (cI, 128, .inl (fun _ => 0))), (q5, .inl (cI, 128, .inl (fun _ => 0))), (q6, .inl (cI, 128, .inl (fun _ => 0))), (q7, .inl (cI, 128, .inl (fun _ => 0))), (q8, .inl (cI, 128, .inl (fun _ => 0)))] := hD
  refine W.widen (k := 8) (n := 1024) (by omega) (by omega) ?_
  refine f_putF (D := (dC, dI)) (ci := 3) (v := .ref q8) (ty := .array .int) (C := R_Sch) (T := F_Sch) (N := 13) hx hb hT in_Sch t_Sch t_Sch_ok n_Sch hown hK hP hD hS 0 rfl rfl 9 (by decide) fr_Sch_9 w_1_173 hin (by decide +kernel) rfl rfl (Nat.le_of_ble_eq_true rfl) d_Sch_init_73 (fun H locs hP hD hS => ?_)
  have hP : va_P (dC, dI) CL [(h0, .inr (3, [.int 0, .int 0, .ref q1, .ref q2, .ref q3, .ref q4, .ref q5, .ref q6, .ref q7, .ref q8, .null, .null, .null])), (q1, .inl (cI, 128, .inl (fun _ => 0))), (q2, .inl (cI, 128, .inl (fun _ => 0))), (q3, .inl (cI, 128, .inl (fun _ => 0))), (q4, .inl (cI, 128, .inl (fun _ => 0))), (q5, .inl (cI, 128, .inl (fun _ => 0))), (q6, .inl (cI, 128, .inl (fun _ => 0))), (q7, .inl (cI, 128, .inl (fun _ => 0))), (q8, .inl (cI, 128, .inl (fun _ => 0)))] H := hP
  have hD : va_D A [(h0, .inr (3, [.int 0, .int 0, .ref q1, .ref q2, .ref q3, .ref q4, .ref q5, .ref q6, .ref q7, .ref q8, .null, .null, .null])), (q1, .inl (cI, 128, .inl (fun _ => 0))), (q2, .inl (cI, 128, .inl (fun _ => 0))), (q3, .inl (cI, 128, .inl (fun _ => 0))), (q4, .inl (cI, 128, .inl (fun _ => 0))), (q5, .inl (cI, 128, .inl (fun _ => 0))), (q6, .inl (cI, 128, .inl (fun _ => 0))), (q7, .inl (cI, 128, .inl (fun _ => 0))), (q8, .inl (cI, 128, .inl (fun _ => 0)))] := hD
  refine lv_aload_n hx hb d_Sch_init_76 rfl (lv_at hl 0 rfl) ?_
  refine lv_bipush (v := 64) hx hb d_Sch_init_77 (by decide) ?_
  refine nw_int (N' := 64) hx hb hT w_1_69 hK hP hD hS hA (by decide) (by decide) (by decide) (show _ ≤ 11 by omega) (show _ ≤ 3264 by omega) d_Sch_init_79 (fun q9 H hP hD hS => ?_)
  have hP : va_P (dC, dI) CL [(h0, .inr (3, [.int 0, .int 0, .ref q1, .ref q2, .ref q3, .ref q4, .ref q5, .ref q6, .ref q7, .ref q8, .null, .null, .null])), (q1, .inl (cI, 128, .inl (fun _ => 0))), (q2, .inl (cI, 128, .inl (fun _ => 0))), (q3, .inl (cI, 128, .inl (fun _ => 0))), (q4, .inl (cI, 128, .inl (fun _ => 0))), (q5, .inl (cI, 128, .inl (fun _ => 0))), (q6, .inl (cI, 128, .inl (fun _ => 0))), (q7, .inl (cI, 128, .inl (fun _ => 0))), (q8, .inl (cI, 128, .inl (fun _ => 0))), (q9, .inl (cI, 64, .inl (fun _ => 0)))] H := hP
  have hD : va_D A [(h0, .inr (3, [.int 0, .int 0, .ref q1, .ref q2, .ref q3, .ref q4, .ref q5, .ref q6, .ref q7, .ref q8, .null, .null, .null])), (q1, .inl (cI, 128, .inl (fun _ => 0))), (q2, .inl (cI, 128, .inl (fun _ => 0))), (q3, .inl (cI, 128, .inl (fun _ => 0))), (q4, .inl (cI, 128, .inl (fun _ => 0))), (q5, .inl (cI, 128, .inl (fun _ => 0))), (q6, .inl (cI, 128, .inl (fun _ => 0))), (q7, .inl (cI, 128, .inl (fun _ => 0))), (q8, .inl (cI, 128, .inl (fun _ => 0))), (q9, .inl (cI, 64, .inl (fun _ => 0)))] := hD
  refine W.widen (k := 9) (n := 1088) (by omega) (by omega) ?_
  refine f_putF (D := (dC, dI)) (ci := 3) (v := .ref q9) (ty := .array .int) (C := R_Sch) (T := F_Sch) (N := 13) hx hb hT in_Sch t_Sch t_Sch_ok n_Sch hown hK hP hD hS 0 rfl rfl 10 (by decide) fr_Sch_10 w_1_178 hin (by decide +kernel) rfl rfl (Nat.le_of_ble_eq_true rfl) d_Sch_init_81 (fun H locs hP hD hS => ?_)
  have hP : va_P (dC, dI) CL [(h0, .inr (3, [.int 0, .int 0, .ref q1, .ref q2, .ref q3, .ref q4, .ref q5, .ref q6, .ref q7, .ref q8, .ref q9, .null, .null])), (q1, .inl (cI, 128, .inl (fun _ => 0))), (q2, .inl (cI, 128, .inl (fun _ => 0))), (q3, .inl (cI, 128, .inl (fun _ => 0))), (q4, .inl (cI, 128, .inl (fun _ => 0))), (q5, .inl (cI, 128, .inl (fun _ => 0))), (q6, .inl (cI, 128, .inl (fun _ => 0))), (q7, .inl (cI, 128, .inl (fun _ => 0))), (q8, .inl (cI, 128, .inl (fun _ => 0))), (q9, .inl (cI, 64, .inl (fun _ => 0)))] H := hP
  have hD : va_D A [(h0, .inr (3, [.int 0, .int 0, .ref q1, .ref q2, .ref q3, .ref q4, .ref q5, .ref q6, .ref q7, .ref q8, .ref q9, .null, .null])), (q1, .inl (cI, 128, .inl (fun _ => 0))), (q2, .inl (cI, 128, .inl (fun _ => 0))), (q3, .inl (cI, 128, .inl (fun _ => 0))), (q4, .inl (cI, 128, .inl (fun _ => 0))), (q5, .inl (cI, 128, .inl (fun _ => 0))), (q6, .inl (cI, 128, .inl (fun _ => 0))), (q7, .inl (cI, 128, .inl (fun _ => 0))), (q8, .inl (cI, 128, .inl (fun _ => 0))), (q9, .inl (cI, 64, .inl (fun _ => 0)))] := hD
  refine lv_aload_n hx hb d_Sch_init_84 rfl (lv_at hl 0 rfl) ?_
  refine lv_sipush (v := 128) hx hb d_Sch_init_85 (by decide) ?_
  refine nw_int (N' := 128) hx hb hT w_1_69 hK hP hD hS hA (by decide) (by decide) (by decide) (show _ ≤ 11 by omega) (show _ ≤ 3264 by omega) d_Sch_init_88 (fun q10 H hP hD hS => ?_)
  have hP : va_P (dC, dI) CL [(h0, .inr (3, [.int 0, .int 0, .ref q1, .ref q2, .ref q3, .ref q4, .ref q5, .ref q6, .ref q7, .ref q8, .ref q9, .null, .null])), (q1, .inl (cI, 128, .inl (fun _ => 0))), (q2, .inl (cI, 128, .inl (fun _ => 0))), (q3, .inl (cI, 128, .inl (fun _ => 0))), (q4, .inl (cI, 128, .inl (fun _ => 0))), (q5, .inl (cI, 128, .inl (fun _ => 0))), (q6, .inl (cI, 128, .inl (fun _ => 0))), (q7, .inl (cI, 128, .inl (fun _ => 0))), (q8, .inl (cI, 128, .inl (fun _ => 0))), (q9, .inl (cI, 64, .inl (fun _ => 0))), (q10, .inl (cI, 128, .inl (fun _ => 0)))] H := hP
  have hD : va_D A [(h0, .inr (3, [.int 0, .int 0, .ref q1, .ref q2, .ref q3, .ref q4, .ref q5, .ref q6, .ref q7, .ref q8, .ref q9, .null, .null])), (q1, .inl (cI, 128, .inl (fun _ => 0))), (q2, .inl (cI, 128, .inl (fun _ => 0))), (q3, .inl (cI, 128, .inl (fun _ => 0))), (q4, .inl (cI, 128, .inl (fun _ => 0))), (q5, .inl (cI, 128, .inl (fun _ => 0))), (q6, .inl (cI, 128, .inl (fun _ => 0))), (q7, .inl (cI, 128, .inl (fun _ => 0))), (q8, .inl (cI, 128, .inl (fun _ => 0))), (q9, .inl (cI, 64, .inl (fun _ => 0))), (q10, .inl (cI, 128, .inl (fun _ => 0)))] := hD
  refine W.widen (k := 10) (n := 1216) (by omega) (by omega) ?_
  refine f_putF (D := (dC, dI)) (ci := 3) (v := .ref q10) (ty := .array .int) (C := R_Sch) (T := F_Sch) (N := 13) hx hb hT in_Sch t_Sch t_Sch_ok n_Sch hown hK hP hD hS 0 rfl rfl 11 (by decide) fr_Sch_11 w_1_184 hin (by decide +kernel) rfl rfl (Nat.le_of_ble_eq_true rfl) d_Sch_init_90 (fun H locs hP hD hS => ?_)
  have hP : va_P (dC, dI) CL [(h0, .inr (3, [.int 0, .int 0, .ref q1, .ref q2, .ref q3, .ref q4, .ref q5, .ref q6, .ref q7, .ref q8, .ref q9, .ref q10, .null])), (q1, .inl (cI, 128, .inl (fun _ => 0))), (q2, .inl (cI, 128, .inl (fun _ => 0))), (q3, .inl (cI, 128, .inl (fun _ => 0))), (q4, .inl (cI, 128, .inl (fun _ => 0))), (q5, .inl (cI, 128, .inl (fun _ => 0))), (q6, .inl (cI, 128, .inl (fun _ => 0))), (q7, .inl (cI, 128, .inl (fun _ => 0))), (q8, .inl (cI, 128, .inl (fun _ => 0))), (q9, .inl (cI, 64, .inl (fun _ => 0))), (q10, .inl (cI, 128, .inl (fun _ => 0)))] H := hP
  have hD : va_D A [(h0, .inr (3, [.int 0, .int 0, .ref q1, .ref q2, .ref q3, .ref q4, .ref q5, .ref q6, .ref q7, .ref q8, .ref q9, .ref q10, .null])), (q1, .inl (cI, 128, .inl (fun _ => 0))), (q2, .inl (cI, 128, .inl (fun _ => 0))), (q3, .inl (cI, 128, .inl (fun _ => 0))), (q4, .inl (cI, 128, .inl (fun _ => 0))), (q5, .inl (cI, 128, .inl (fun _ => 0))), (q6, .inl (cI, 128, .inl (fun _ => 0))), (q7, .inl (cI, 128, .inl (fun _ => 0))), (q8, .inl (cI, 128, .inl (fun _ => 0))), (q9, .inl (cI, 64, .inl (fun _ => 0))), (q10, .inl (cI, 128, .inl (fun _ => 0)))] := hD
  refine lv_aload_n hx hb d_Sch_init_93 rfl (lv_at hl 0 rfl) ?_
  refine lv_sipush (v := 2048) hx hb d_Sch_init_94 (by decide) ?_
  refine nw_byte (N' := 2048) hx hb hT w_1_70 hK hP hD hS hA (by decide) (by decide) (by decide) (show _ ≤ 11 by omega) (show _ ≤ 3264 by omega) d_Sch_init_97 (fun q11 H hP hD hS => ?_)
  have hP : va_P (dC, dI) CL [(h0, .inr (3, [.int 0, .int 0, .ref q1, .ref q2, .ref q3, .ref q4, .ref q5, .ref q6, .ref q7, .ref q8, .ref q9, .ref q10, .null])), (q1, .inl (cI, 128, .inl (fun _ => 0))), (q2, .inl (cI, 128, .inl (fun _ => 0))), (q3, .inl (cI, 128, .inl (fun _ => 0))), (q4, .inl (cI, 128, .inl (fun _ => 0))), (q5, .inl (cI, 128, .inl (fun _ => 0))), (q6, .inl (cI, 128, .inl (fun _ => 0))), (q7, .inl (cI, 128, .inl (fun _ => 0))), (q8, .inl (cI, 128, .inl (fun _ => 0))), (q9, .inl (cI, 64, .inl (fun _ => 0))), (q10, .inl (cI, 128, .inl (fun _ => 0))), (q11, .inl (cB, 2048, .inl (fun _ => 0)))] H := hP
  have hD : va_D A [(h0, .inr (3, [.int 0, .int 0, .ref q1, .ref q2, .ref q3, .ref q4, .ref q5, .ref q6, .ref q7, .ref q8, .ref q9, .ref q10, .null])), (q1, .inl (cI, 128, .inl (fun _ => 0))), (q2, .inl (cI, 128, .inl (fun _ => 0))), (q3, .inl (cI, 128, .inl (fun _ => 0))), (q4, .inl (cI, 128, .inl (fun _ => 0))), (q5, .inl (cI, 128, .inl (fun _ => 0))), (q6, .inl (cI, 128, .inl (fun _ => 0))), (q7, .inl (cI, 128, .inl (fun _ => 0))), (q8, .inl (cI, 128, .inl (fun _ => 0))), (q9, .inl (cI, 64, .inl (fun _ => 0))), (q10, .inl (cI, 128, .inl (fun _ => 0))), (q11, .inl (cB, 2048, .inl (fun _ => 0)))] := hD
  refine W.widen (k := 11) (n := 3264) (by omega) (by omega) ?_
  refine f_putF (D := (dC, dI)) (ci := 3) (v := .ref q11) (ty := .array .byte) (C := R_Sch) (T := F_Sch) (N := 13) hx hb hT in_Sch t_Sch t_Sch_ok n_Sch hown hK hP hD hS 0 rfl rfl 12 (by decide) fr_Sch_12 w_1_187 hin (by decide +kernel) rfl rfl (Nat.le_of_ble_eq_true rfl) d_Sch_init_99 (fun H locs hP hD hS => ?_)
  have hP : va_P (dC, dI) CL [(h0, .inr (3, [.int 0, .int 0, .ref q1, .ref q2, .ref q3, .ref q4, .ref q5, .ref q6, .ref q7, .ref q8, .ref q9, .ref q10, .ref q11])), (q1, .inl (cI, 128, .inl (fun _ => 0))), (q2, .inl (cI, 128, .inl (fun _ => 0))), (q3, .inl (cI, 128, .inl (fun _ => 0))), (q4, .inl (cI, 128, .inl (fun _ => 0))), (q5, .inl (cI, 128, .inl (fun _ => 0))), (q6, .inl (cI, 128, .inl (fun _ => 0))), (q7, .inl (cI, 128, .inl (fun _ => 0))), (q8, .inl (cI, 128, .inl (fun _ => 0))), (q9, .inl (cI, 64, .inl (fun _ => 0))), (q10, .inl (cI, 128, .inl (fun _ => 0))), (q11, .inl (cB, 2048, .inl (fun _ => 0)))] H := hP
  have hD : va_D A [(h0, .inr (3, [.int 0, .int 0, .ref q1, .ref q2, .ref q3, .ref q4, .ref q5, .ref q6, .ref q7, .ref q8, .ref q9, .ref q10, .ref q11])), (q1, .inl (cI, 128, .inl (fun _ => 0))), (q2, .inl (cI, 128, .inl (fun _ => 0))), (q3, .inl (cI, 128, .inl (fun _ => 0))), (q4, .inl (cI, 128, .inl (fun _ => 0))), (q5, .inl (cI, 128, .inl (fun _ => 0))), (q6, .inl (cI, 128, .inl (fun _ => 0))), (q7, .inl (cI, 128, .inl (fun _ => 0))), (q8, .inl (cI, 128, .inl (fun _ => 0))), (q9, .inl (cI, 64, .inl (fun _ => 0))), (q10, .inl (cI, 128, .inl (fun _ => 0))), (q11, .inl (cB, 2048, .inl (fun _ => 0)))] := hD
  refine W.widen (k := 11) (n := 3264) (by omega) (by omega) ?_
  exact W.vret hx hb hr (fun t ht hW => ⟨⟨(), rfl, trivial, ⟨q1, q2, q3, q4, q5, q6, q7, q8, q9, q10, q11, by rw [ht]; exact hP, hD⟩⟩, hS.F ht⟩) hS.2.2 d_Sch_init_102
set_option maxHeartbeats 4000000 in
set_option maxRecDepth 100000 in
/-- Rec_init -/
theorem c_Rec_init (h0 sz : Nat) : Met l y_Rec_init (wsOf y_Rec_init b_Rec_init 1 none) ({ frames := 1, cells := 8, slots := 114128, locals := 23 }) (va_Pc [.ref h0] (PC dC dI cI cB cJ cZ sz [(h0, .inr (4, [.int 0, .int 0, .int 0, .int 0, .int 0, .null, .null, .null, .null, .null, .null, .null, .null, .null, .null]))])) (va_Qv (fun _ : Unit => True) (fun _ t => ∃ q1 q2 q3 q4 q5 q8 q6 q7 : Nat, va_P (dC, dI) CL [(h0, .inr (4, [.int 0, .int 0, .int 0, .int 0, .int 0, .ref q1, .ref q2, .ref q3, .ref q4, .ref q5, .ref q6, .ref q7, .ref q8, .null, .null])), (q1, .inl (cB, 10000, .inl (fun _ => 0))), (q2, .inl (cB, 10000, .inl (fun _ => 0))), (q3, .inl (cJ, 10000, .inr (.inl (fun _ => 0)))), (q4, .inl (cB, 10000, .inl (fun _ => 0))), (q5, .inl (cI, 10000, .inl (fun _ => 0))), (q8, .inl (cB, 64000, .inl (fun _ => 0))), (q6, .inl (cI, 64, .inl (fun _ => (-1)))), (q7, .inl (cI, 64, .inl (fun _ => (-1))))] t.heap ∧ va_D (va_A [(h0, .inr (4, [.int 0, .int 0, .int 0, .int 0, .int 0, .null, .null, .null, .null, .null, .null, .null, .null, .null, .null]))] sz) [(h0, .inr (4, [.int 0, .int 0, .int 0, .int 0, .int 0, .ref q1, .ref q2, .ref q3, .ref q4, .ref q5, .ref q6, .ref q7, .ref q8, .null, .null])), (q1, .inl (cB, 10000, .inl (fun _ => 0))), (q2, .inl (cB, 10000, .inl (fun _ => 0))), (q3, .inl (cJ, 10000, .inr (.inl (fun _ => 0)))), (q4, .inl (cB, 10000, .inl (fun _ => 0))), (q5, .inl (cI, 10000, .inl (fun _ => 0))), (q8, .inl (cB, 64000, .inl (fun _ => 0))), (q6, .inl (cI, 64, .inl (fun _ => (-1)))), (q7, .inl (cI, 64, .inl (fun _ => (-1))))]) (va_A [(h0, .inr (4, [.int 0, .int 0, .int 0, .int 0, .int 0, .null, .null, .null, .null, .null, .null, .null, .null, .null, .null]))] sz)) 8 114128 (va_A [(h0, .inr (4, [.int 0, .int 0, .int 0, .int 0, .int 0, .null, .null, .null, .null, .null, .null, .null, .null, .null, .null]))] sz) := by
  refine Met.ofW (cc := b_Rec_init) (maxL := 1) (ret := none) (by decide) rfl ?_
  intro p e s m args below meth c s₁ B hml hv
  obtain ⟨rfl, hsz, hP, hK, hD0, hN⟩ := hv
  have hx := B.exec
  have hb := B.bytes
  have hr := B.returns
  have hts := atoms_spec B.pre
  have hT : ∀ w ∈ TG, w.before _ s = true := fun w h => hts w (List.mem_cons_of_mem _ h)
  have hown : s.vm.findClass R_Rec = some m.cls := findClass_of_methodNamed B.named
  have hlocks := B.notSynchronized
  have hin : meth.name = "<init>" := (name_of_methodNamed B.named B.method).1
  subst hsz
  have hD := hD0.self (sz := s.heap.size)
  generalize hAe : va_A [(h0, .inr (4, [.int 0, .int 0, .int 0, .int 0, .int 0, .null, .null, .null, .null, .null, .null, .null, .null, .null, .null]))] s.heap.size = A at hD ⊢
  have hA : ∀ q : Nat, s.heap.size ≤ q → A q := fun q h => by rw [← hAe]; exact Or.inr h
  have hS : va_S A s.heap s.heap [] := va_S.rf
  have hl := lv_entry ([.ref h0]) (n := 1) (Nat.le_of_ble_eq_true rfl)
  rw [lg_entry_eq]
  generalize (lg_sl ([.ref h0]) ++ List.replicate (1 - (lg_sl ([.ref h0])).length) Slot.unset).toArray = ls at hl ⊢
  have hl : lv_has ls 1 [(0, .ref h0)] := hl
  refine lv_aload_n hx hb d_Rec_init_0 rfl (lv_at hl 0 rfl) ?_
  refine W.objInit hx hb hown (hT _ w_1_222) (hT _ w_1_28) (hT _ w_obj) rfl (by rw [hml]; exact hl.1) rfl d_Rec_init_1 (Nat.le_of_ble_eq_true rfl) (Nat.le_of_ble_eq_true rfl) ?_
  refine W.eq (g2 := F0 m 4 ls []) rfl ?_
  refine lv_aload_n hx hb d_Rec_init_4 rfl (lv_at hl 0 rfl) ?_
  refine lv_sipush (v := 10000) hx hb d_Rec_init_5 (by decide) ?_
  refine nw_byte (N' := 10000) hx hb hT w_1_70 hK hP hD hS hA (by decide) (by decide) (by decide) (show _ ≤ 8 by omega) (show _ ≤ 114128 by omega) d_Rec_init_8 (fun q1 H hP hD hS => ?_)
  have hP : va_P (dC, dI) CL [(h0, .inr (4, [.int 0, .int 0, .int 0, .int 0, .int 0, .null, .null, .null, .null, .null, .null, .null, .null, .null, .null])), (q1, .inl (cB, 10000, .inl (fun _ => 0)))] H := hP
  have hD : va_D A [(h0, .inr (4, [.int 0, .int 0, .int 0, .int 0, .int 0, .null, .null, .null, .null, .null, .null, .null, .null, .null, .null])), (q1, .inl (cB, 10000, .inl (fun _ => 0)))] := hD
  refine W.widen (k := 1) (n := 10000) (by omega) (by omega) ?_
  refine f_putF (D := (dC, dI)) (ci := 4) (v := .ref q1) (ty := .array .byte) (C := R_Rec) (T := F_Rec) (N := 15) hx hb hT in_Rec t_Rec t_Rec_ok n_Rec hown hK hP hD hS 0 rfl rfl 5 (by decide) fr_Rec_5 w_1_234 hin (by decide +kernel) rfl rfl (Nat.le_of_ble_eq_true rfl) d_Rec_init_10 (fun H locs hP hD hS => ?_)
  have hP : va_P (dC, dI) CL [(h0, .inr (4, [.int 0, .int 0, .int 0, .int 0, .int 0, .ref q1, .null, .null, .null, .null, .null, .null, .null, .null, .null])), (q1, .inl (cB, 10000, .inl (fun _ => 0)))] H := hP
  have hD : va_D A [(h0, .inr (4, [.int 0, .int 0, .int 0, .int 0, .int 0, .ref q1, .null, .null, .null, .null, .null, .null, .null, .null, .null])), (q1, .inl (cB, 10000, .inl (fun _ => 0)))] := hD
  refine lv_aload_n hx hb d_Rec_init_13 rfl (lv_at hl 0 rfl) ?_
  refine lv_sipush (v := 10000) hx hb d_Rec_init_14 (by decide) ?_
  refine nw_byte (N' := 10000) hx hb hT w_1_70 hK hP hD hS hA (by decide) (by decide) (by decide) (show _ ≤ 8 by omega) (show _ ≤ 114128 by omega) d_Rec_init_17 (fun q2 H hP hD hS => ?_)
  have hP : va_P (dC, dI) CL [(h0, .inr (4, [.int 0, .int 0, .int 0, .int 0, .int 0, .ref q1, .null, .null, .null, .null, .null, .null, .null, .null, .null])), (q1, .inl (cB, 10000, .inl (fun _ => 0))), (q2, .inl (cB, 10000, .inl (fun _ => 0)))] H := hP
  have hD : va_D A [(h0, .inr (4, [.int 0, .int 0, .int 0, .int 0, .int 0, .ref q1, .null, .null, .null, .null, .null, .null, .null, .null, .null])), (q1, .inl (cB, 10000, .inl (fun _ => 0))), (q2, .inl (cB, 10000, .inl (fun _ => 0)))] := hD
  refine W.widen (k := 2) (n := 20000) (by omega) (by omega) ?_
  refine f_putF (D := (dC, dI)) (ci := 4) (v := .ref q2) (ty := .array .byte) (C := R_Rec) (T := F_Rec) (N := 15) hx hb hT in_Rec t_Rec t_Rec_ok n_Rec hown hK hP hD hS 0 rfl rfl 6 (by decide) fr_Rec_6 w_1_236 hin (by decide +kernel) rfl rfl (Nat.le_of_ble_eq_true rfl) d_Rec_init_19 (fun H locs hP hD hS => ?_)
  have hP : va_P (dC, dI) CL [(h0, .inr (4, [.int 0, .int 0, .int 0, .int 0, .int 0, .ref q1, .ref q2, .null, .null, .null, .null, .null, .null, .null, .null])), (q1, .inl (cB, 10000, .inl (fun _ => 0))), (q2, .inl (cB, 10000, .inl (fun _ => 0)))] H := hP
  have hD : va_D A [(h0, .inr (4, [.int 0, .int 0, .int 0, .int 0, .int 0, .ref q1, .ref q2, .null, .null, .null, .null, .null, .null, .null, .null])), (q1, .inl (cB, 10000, .inl (fun _ => 0))), (q2, .inl (cB, 10000, .inl (fun _ => 0)))] := hD
  refine lv_aload_n hx hb d_Rec_init_22 rfl (lv_at hl 0 rfl) ?_
  refine lv_sipush (v := 10000) hx hb d_Rec_init_23 (by decide) ?_
  refine nw_long (N' := 10000) hx hb hT w_2_41 hK hP hD hS hA (by decide) (by decide) (by decide) (show _ ≤ 8 by omega) (show _ ≤ 114128 by omega) d_Rec_init_26 (fun q3 H hP hD hS => ?_)
  have hP : va_P (dC, dI) CL [(h0, .inr (4, [.int 0, .int 0, .int 0, .int 0, .int 0, .ref q1, .ref q2, .null, .null, .null, .null, .null, .null, .null, .null])), (q1, .inl (cB, 10000, .inl (fun _ => 0))), (q2, .inl (cB, 10000, .inl (fun _ => 0))), (q3, .inl (cJ, 10000, .inr (.inl (fun _ => 0))))] H := hP
  have hD : va_D A [(h0, .inr (4, [.int 0, .int 0, .int 0, .int 0, .int 0, .ref q1, .ref q2, .null, .null, .null, .null, .null, .null, .null, .null])), (q1, .inl (cB, 10000, .inl (fun _ => 0))), (q2, .inl (cB, 10000, .inl (fun _ => 0))), (q3, .inl (cJ, 10000, .inr (.inl (fun _ => 0))))] := hD
  refine W.widen (k := 3) (n := 30000) (by omega) (by omega) ?_
  refine f_putF (D := (dC, dI)) (ci := 4) (v := .ref q3) (ty := .array .long) (C := R_Rec) (T := F_Rec) (N := 15) hx hb hT in_Rec t_Rec t_Rec_ok n_Rec hown hK hP hD hS 0 rfl rfl 7 (by decide) fr_Rec_7 w_1_238 hin (by decide +kernel) rfl rfl (Nat.le_of_ble_eq_true rfl) d_Rec_init_28 (fun H locs hP hD hS => ?_)
  have hP : va_P (dC, dI) CL [(h0, .inr (4, [.int 0, .int 0, .int 0, .int 0, .int 0, .ref q1, .ref q2, .ref q3, .null, .null, .null, .null, .null, .null, .null])), (q1, .inl (cB, 10000, .inl (fun _ => 0))), (q2, .inl (cB, 10000, .inl (fun _ => 0))), (q3, .inl (cJ, 10000, .inr (.inl (fun _ => 0))))] H := hP
  have hD : va_D A [(h0, .inr (4, [.int 0, .int 0, .int 0, .int 0, .int 0, .ref q1, .ref q2, .ref q3, .null, .null, .null, .null, .null, .null, .null])), (q1, .inl (cB, 10000, .inl (fun _ => 0))), (q2, .inl (cB, 10000, .inl (fun _ => 0))), (q3, .inl (cJ, 10000, .inr (.inl (fun _ => 0))))] := hD
  refine lv_aload_n hx hb d_Rec_init_31 rfl (lv_at hl 0 rfl) ?_
  refine lv_sipush (v := 10000) hx hb d_Rec_init_32 (by decide) ?_
  refine nw_byte (N' := 10000) hx hb hT w_1_70 hK hP hD hS hA (by decide) (by decide) (by decide) (show _ ≤ 8 by omega) (show _ ≤ 114128 by omega) d_Rec_init_35 (fun q4 H hP hD hS => ?_)
  have hP : va_P (dC, dI) CL [(h0, .inr (4, [.int 0, .int 0, .int 0, .int 0, .int 0, .ref q1, .ref q2, .ref q3, .null, .null, .null, .null, .null, .null, .null])), (q1, .inl (cB, 10000, .inl (fun _ => 0))), (q2, .inl (cB, 10000, .inl (fun _ => 0))), (q3, .inl (cJ, 10000, .inr (.inl (fun _ => 0)))), (q4, .inl (cB, 10000, .inl (fun _ => 0)))] H := hP
  have hD : va_D A [(h0, .inr (4, [.int 0, .int 0, .int 0, .int 0, .int 0, .ref q1, .ref q2, .ref q3, .null, .null, .null, .null, .null, .null, .null])), (q1, .inl (cB, 10000, .inl (fun _ => 0))), (q2, .inl (cB, 10000, .inl (fun _ => 0))), (q3, .inl (cJ, 10000, .inr (.inl (fun _ => 0)))), (q4, .inl (cB, 10000, .inl (fun _ => 0)))] := hD
  refine W.widen (k := 4) (n := 40000) (by omega) (by omega) ?_
  refine f_putF (D := (dC, dI)) (ci := 4) (v := .ref q4) (ty := .array .byte) (C := R_Rec) (T := F_Rec) (N := 15) hx hb hT in_Rec t_Rec t_Rec_ok n_Rec hown hK hP hD hS 0 rfl rfl 8 (by decide) fr_Rec_8 w_2_0 hin (by decide +kernel) rfl rfl (Nat.le_of_ble_eq_true rfl) d_Rec_init_37 (fun H locs hP hD hS => ?_)
  have hP : va_P (dC, dI) CL [(h0, .inr (4, [.int 0, .int 0, .int 0, .int 0, .int 0, .ref q1, .ref q2, .ref q3, .ref q4, .null, .null, .null, .null, .null, .null])), (q1, .inl (cB, 10000, .inl (fun _ => 0))), (q2, .inl (cB, 10000, .inl (fun _ => 0))), (q3, .inl (cJ, 10000, .inr (.inl (fun _ => 0)))), (q4, .inl (cB, 10000, .inl (fun _ => 0)))] H := hP
  have hD : va_D A [(h0, .inr (4, [.int 0, .int 0, .int 0, .int 0, .int 0, .ref q1, .ref q2, .ref q3, .ref q4, .null, .null, .null, .null, .null, .null])), (q1, .inl (cB, 10000, .inl (fun _ => 0))), (q2, .inl (cB, 10000, .inl (fun _ => 0))), (q3, .inl (cJ, 10000, .inr (.inl (fun _ => 0)))), (q4, .inl (cB, 10000, .inl (fun _ => 0)))] := hD
  refine lv_aload_n hx hb d_Rec_init_40 rfl (lv_at hl 0 rfl) ?_
  refine lv_sipush (v := 10000) hx hb d_Rec_init_41 (by decide) ?_
  refine nw_int (N' := 10000) hx hb hT w_1_69 hK hP hD hS hA (by decide) (by decide) (by decide) (show _ ≤ 8 by omega) (show _ ≤ 114128 by omega) d_Rec_init_44 (fun q5 H hP hD hS => ?_)
  have hP : va_P (dC, dI) CL [(h0, .inr (4, [.int 0, .int 0, .int 0, .int 0, .int 0, .ref q1, .ref q2, .ref q3, .ref q4, .null, .null, .null, .null, .null, .null])), (q1, .inl (cB, 10000, .inl (fun _ => 0))), (q2, .inl (cB, 10000, .inl (fun _ => 0))), (q3, .inl (cJ, 10000, .inr (.inl (fun _ => 0)))), (q4, .inl (cB, 10000, .inl (fun _ => 0))), (q5, .inl (cI, 10000, .inl (fun _ => 0)))] H := hP
  have hD : va_D A [(h0, .inr (4, [.int 0, .int 0, .int 0, .int 0, .int 0, .ref q1, .ref q2, .ref q3, .ref q4, .null, .null, .null, .null, .null, .null])), (q1, .inl (cB, 10000, .inl (fun _ => 0))), (q2, .inl (cB, 10000, .inl (fun _ => 0))), (q3, .inl (cJ, 10000, .inr (.inl (fun _ => 0)))), (q4, .inl (cB, 10000, .inl (fun _ => 0))), (q5, .inl (cI, 10000, .inl (fun _ => 0)))] := hD
  refine W.widen (k := 5) (n := 50000) (by omega) (by omega) ?_
  refine f_putF (D := (dC, dI)) (ci := 4) (v := .ref q5) (ty := .array .int) (C := R_Rec) (T := F_Rec) (N := 15) hx hb hT in_Rec t_Rec t_Rec_ok n_Rec hown hK hP hD hS 0 rfl rfl 9 (by decide) fr_Rec_9 w_2_1 hin (by decide +kernel) rfl rfl (Nat.le_of_ble_eq_true rfl) d_Rec_init_46 (fun H locs hP hD hS => ?_)
  have hP : va_P (dC, dI) CL [(h0, .inr (4, [.int 0, .int 0, .int 0, .int 0, .int 0, .ref q1, .ref q2, .ref q3, .ref q4, .ref q5, .null, .null, .null, .null, .null])), (q1, .inl (cB, 10000, .inl (fun _ => 0))), (q2, .inl (cB, 10000, .inl (fun _ => 0))), (q3, .inl (cJ, 10000, .inr (.inl (fun _ => 0)))), (q4, .inl (cB, 10000, .inl (fun _ => 0))), (q5, .inl (cI, 10000, .inl (fun _ => 0)))] H := hP
  have hD : va_D A [(h0, .inr (4, [.int 0, .int 0, .int 0, .int 0, .int 0, .ref q1, .ref q2, .ref q3, .ref q4, .ref q5, .null, .null, .null, .null, .null])), (q1, .inl (cB, 10000, .inl (fun _ => 0))), (q2, .inl (cB, 10000, .inl (fun _ => 0))), (q3, .inl (cJ, 10000, .inr (.inl (fun _ => 0)))), (q4, .inl (cB, 10000, .inl (fun _ => 0))), (q5, .inl (cI, 10000, .inl (fun _ => 0)))] := hD
  refine lv_aload_n hx hb d_Rec_init_49 rfl (lv_at hl 0 rfl) ?_
  refine lv_bipush (v := 64) hx hb d_Rec_init_50 (by decide) ?_
  refine nw_int (N' := 64) hx hb hT w_1_69 hK hP hD hS hA (by decide) (by decide) (by decide) (show _ ≤ 8 by omega) (show _ ≤ 114128 by omega) d_Rec_init_52 (fun q6 H hP hD hS => ?_)
  have hP : va_P (dC, dI) CL [(h0, .inr (4, [.int 0, .int 0, .int 0, .int 0, .int 0, .ref q1, .ref q2, .ref q3, .ref q4, .ref q5, .null, .null, .null, .null, .null])), (q1, .inl (cB, 10000, .inl (fun _ => 0))), (q2, .inl (cB, 10000, .inl (fun _ => 0))), (q3, .inl (cJ, 10000, .inr (.inl (fun _ => 0)))), (q4, .inl (cB, 10000, .inl (fun _ => 0))), (q5, .inl (cI, 10000, .inl (fun _ => 0))), (q6, .inl (cI, 64, .inl (fun _ => 0)))] H := hP
  have hD : va_D A [(h0, .inr (4, [.int 0, .int 0, .int 0, .int 0, .int 0, .ref q1, .ref q2, .ref q3, .ref q4, .ref q5, .null, .null, .null, .null, .null])), (q1, .inl (cB, 10000, .inl (fun _ => 0))), (q2, .inl (cB, 10000, .inl (fun _ => 0))), (q3, .inl (cJ, 10000, .inr (.inl (fun _ => 0)))), (q4, .inl (cB, 10000, .inl (fun _ => 0))), (q5, .inl (cI, 10000, .inl (fun _ => 0))), (q6, .inl (cI, 64, .inl (fun _ => 0)))] := hD
  refine W.widen (k := 6) (n := 50064) (by omega) (by omega) ?_
  refine f_putF (D := (dC, dI)) (ci := 4) (v := .ref q6) (ty := .array .int) (C := R_Rec) (T := F_Rec) (N := 15) hx hb hT in_Rec t_Rec t_Rec_ok n_Rec hown hK hP hD hS 0 rfl rfl 10 (by decide) fr_Rec_10 w_2_3 hin (by decide +kernel) rfl rfl (Nat.le_of_ble_eq_true rfl) d_Rec_init_54 (fun H locs hP hD hS => ?_)
  have hP : va_P (dC, dI) CL [(h0, .inr (4, [.int 0, .int 0, .int 0, .int 0, .int 0, .ref q1, .ref q2, .ref q3, .ref q4, .ref q5, .ref q6, .null, .null, .null, .null])), (q1, .inl (cB, 10000, .inl (fun _ => 0))), (q2, .inl (cB, 10000, .inl (fun _ => 0))), (q3, .inl (cJ, 10000, .inr (.inl (fun _ => 0)))), (q4, .inl (cB, 10000, .inl (fun _ => 0))), (q5, .inl (cI, 10000, .inl (fun _ => 0))), (q6, .inl (cI, 64, .inl (fun _ => 0)))] H := hP
  have hD : va_D A [(h0, .inr (4, [.int 0, .int 0, .int 0, .int 0, .int 0, .ref q1, .ref q2, .ref q3, .ref q4, .ref q5, .ref q6, .null, .null, .null, .null])), (q1, .inl (cB, 10000, .inl (fun _ => 0))), (q2, .inl (cB, 10000, .inl (fun _ => 0))), (q3, .inl (cJ, 10000, .inr (.inl (fun _ => 0)))), (q4, .inl (cB, 10000, .inl (fun _ => 0))), (q5, .inl (cI, 10000, .inl (fun _ => 0))), (q6, .inl (cI, 64, .inl (fun _ => 0)))] := hD
  refine lv_aload_n hx hb d_Rec_init_57 rfl (lv_at hl 0 rfl) ?_
  refine lv_bipush (v := 64) hx hb d_Rec_init_58 (by decide) ?_
  refine nw_int (N' := 64) hx hb hT w_1_69 hK hP hD hS hA (by decide) (by decide) (by decide) (show _ ≤ 8 by omega) (show _ ≤ 114128 by omega) d_Rec_init_60 (fun q7 H hP hD hS => ?_)
  have hP : va_P (dC, dI) CL [(h0, .inr (4, [.int 0, .int 0, .int 0, .int 0, .int 0, .ref q1, .ref q2, .ref q3, .ref q4, .ref q5, .ref q6, .null, .null, .null, .null])), (q1, .inl (cB, 10000, .inl (fun _ => 0))), (q2, .inl (cB, 10000, .inl (fun _ => 0))), (q3, .inl (cJ, 10000, .inr (.inl (fun _ => 0)))), (q4, .inl (cB, 10000, .inl (fun _ => 0))), (q5, .inl (cI, 10000, .inl (fun _ => 0))), (q6, .inl (cI, 64, .inl (fun _ => 0))), (q7, .inl (cI, 64, .inl (fun _ => 0)))] H := hP
  have hD : va_D A [(h0, .inr (4, [.int 0, .int 0, .int 0, .int 0, .int 0, .ref q1, .ref q2, .ref q3, .ref q4, .ref q5, .ref q6, .null, .null, .null, .null])), (q1, .inl (cB, 10000, .inl (fun _ => 0))), (q2, .inl (cB, 10000, .inl (fun _ => 0))), (q3, .inl (cJ, 10000, .inr (.inl (fun _ => 0)))), (q4, .inl (cB, 10000, .inl (fun _ => 0))), (q5, .inl (cI, 10000, .inl (fun _ => 0))), (q6, .inl (cI, 64, .inl (fun _ => 0))), (q7, .inl (cI, 64, .inl (fun _ => 0)))] := hD
  refine W.widen (k := 7) (n := 50128) (by omega) (by omega) ?_
  refine f_putF (D := (dC, dI)) (ci := 4) (v := .ref q7) (ty := .array .int) (C := R_Rec) (T := F_Rec) (N := 15) hx hb hT in_Rec t_Rec t_Rec_ok n_Rec hown hK hP hD hS 0 rfl rfl 11 (by decide) fr_Rec_11 w_2_5 hin (by decide +kernel) rfl rfl (Nat.le_of_ble_eq_true rfl) d_Rec_init_62 (fun H locs hP hD hS => ?_)
  have hP : va_P (dC, dI) CL [(h0, .inr (4, [.int 0, .int 0, .int 0, .int 0, .int 0, .ref q1, .ref q2, .ref q3, .ref q4, .ref q5, .ref q6, .ref q7, .null, .null, .null])), (q1, .inl (cB, 10000, .inl (fun _ => 0))), (q2, .inl (cB, 10000, .inl (fun _ => 0))), (q3, .inl (cJ, 10000, .inr (.inl (fun _ => 0)))), (q4, .inl (cB, 10000, .inl (fun _ => 0))), (q5, .inl (cI, 10000, .inl (fun _ => 0))), (q6, .inl (cI, 64, .inl (fun _ => 0))), (q7, .inl (cI, 64, .inl (fun _ => 0)))] H := hP
  have hD : va_D A [(h0, .inr (4, [.int 0, .int 0, .int 0, .int 0, .int 0, .ref q1, .ref q2, .ref q3, .ref q4, .ref q5, .ref q6, .ref q7, .null, .null, .null])), (q1, .inl (cB, 10000, .inl (fun _ => 0))), (q2, .inl (cB, 10000, .inl (fun _ => 0))), (q3, .inl (cJ, 10000, .inr (.inl (fun _ => 0)))), (q4, .inl (cB, 10000, .inl (fun _ => 0))), (q5, .inl (cI, 10000, .inl (fun _ => 0))), (q6, .inl (cI, 64, .inl (fun _ => 0))), (q7, .inl (cI, 64, .inl (fun _ => 0)))] := hD
  refine lv_aload_n hx hb d_Rec_init_65 rfl (lv_at hl 0 rfl) ?_
  refine lv_ldc hx hb hown (hT _ w_1_223) d_Rec_init_66 ?_
  refine nw_byte (N' := 64000) hx hb hT w_1_70 hK hP hD hS hA (by decide) (by decide) (by decide) (show _ ≤ 8 by omega) (show _ ≤ 114128 by omega) d_Rec_init_68 (fun q8 H hP hD hS => ?_)
  have hP : va_P (dC, dI) CL [(h0, .inr (4, [.int 0, .int 0, .int 0, .int 0, .int 0, .ref q1, .ref q2, .ref q3, .ref q4, .ref q5, .ref q6, .ref q7, .null, .null, .null])), (q1, .inl (cB, 10000, .inl (fun _ => 0))), (q2, .inl (cB, 10000, .inl (fun _ => 0))), (q3, .inl (cJ, 10000, .inr (.inl (fun _ => 0)))), (q4, .inl (cB, 10000, .inl (fun _ => 0))), (q5, .inl (cI, 10000, .inl (fun _ => 0))), (q6, .inl (cI, 64, .inl (fun _ => 0))), (q7, .inl (cI, 64, .inl (fun _ => 0))), (q8, .inl (cB, 64000, .inl (fun _ => 0)))] H := hP
  have hD : va_D A [(h0, .inr (4, [.int 0, .int 0, .int 0, .int 0, .int 0, .ref q1, .ref q2, .ref q3, .ref q4, .ref q5, .ref q6, .ref q7, .null, .null, .null])), (q1, .inl (cB, 10000, .inl (fun _ => 0))), (q2, .inl (cB, 10000, .inl (fun _ => 0))), (q3, .inl (cJ, 10000, .inr (.inl (fun _ => 0)))), (q4, .inl (cB, 10000, .inl (fun _ => 0))), (q5, .inl (cI, 10000, .inl (fun _ => 0))), (q6, .inl (cI, 64, .inl (fun _ => 0))), (q7, .inl (cI, 64, .inl (fun _ => 0))), (q8, .inl (cB, 64000, .inl (fun _ => 0)))] := hD
  refine W.widen (k := 8) (n := 114128) (by omega) (by omega) ?_
  refine f_putF (D := (dC, dI)) (ci := 4) (v := .ref q8) (ty := .array .byte) (C := R_Rec) (T := F_Rec) (N := 15) hx hb hT in_Rec t_Rec t_Rec_ok n_Rec hown hK hP hD hS 0 rfl rfl 12 (by decide) fr_Rec_12 w_2_6 hin (by decide +kernel) rfl rfl (Nat.le_of_ble_eq_true rfl) d_Rec_init_70 (fun H locs hP hD hS => ?_)
  have hP : va_P (dC, dI) CL [(h0, .inr (4, [.int 0, .int 0, .int 0, .int 0, .int 0, .ref q1, .ref q2, .ref q3, .ref q4, .ref q5, .ref q6, .ref q7, .ref q8, .null, .null])), (q1, .inl (cB, 10000, .inl (fun _ => 0))), (q2, .inl (cB, 10000, .inl (fun _ => 0))), (q3, .inl (cJ, 10000, .inr (.inl (fun _ => 0)))), (q4, .inl (cB, 10000, .inl (fun _ => 0))), (q5, .inl (cI, 10000, .inl (fun _ => 0))), (q6, .inl (cI, 64, .inl (fun _ => 0))), (q7, .inl (cI, 64, .inl (fun _ => 0))), (q8, .inl (cB, 64000, .inl (fun _ => 0)))] H := hP
  have hD : va_D A [(h0, .inr (4, [.int 0, .int 0, .int 0, .int 0, .int 0, .ref q1, .ref q2, .ref q3, .ref q4, .ref q5, .ref q6, .ref q7, .ref q8, .null, .null])), (q1, .inl (cB, 10000, .inl (fun _ => 0))), (q2, .inl (cB, 10000, .inl (fun _ => 0))), (q3, .inl (cJ, 10000, .inr (.inl (fun _ => 0)))), (q4, .inl (cB, 10000, .inl (fun _ => 0))), (q5, .inl (cI, 10000, .inl (fun _ => 0))), (q6, .inl (cI, 64, .inl (fun _ => 0))), (q7, .inl (cI, 64, .inl (fun _ => 0))), (q8, .inl (cB, 64000, .inl (fun _ => 0)))] := hD
  refine lv_aload_n hx hb d_Rec_init_73 rfl (lv_at hl 0 rfl) ?_
  refine f_get (D := (dC, dI)) (ci := 4) (v := .ref q6) (C := R_Rec) (T := F_Rec) (N := 15) hx hb hT in_Rec hown hK hP 0 rfl rfl 10 (by decide) fr_Rec_10 w_2_3 rfl d_Rec_init_74 ?_
  refine lv_iconst (v := (-1)) hx hb d_Rec_init_77 (by decide) ?_
  have hPc := hP.sub (ws' := [(q6, .inl (cI, 64, .inl (fun _ => 0)))]) [6] rfl
  have hDc := hD.sub (ws' := [(q6, .inl (cI, 64, .inl (fun _ => 0)))]) [6] (by decide) rfl
  have hFc := va_free (wc := [(q6, .inl (cI, 64, .inl (fun _ => 0)))]) hD hS hA [6] rfl
  refine va_callv (va_runS (As := [.ref q6, .int (-1)]) (rest := []) ⟨hx, hb, hml, hown, hT⟩ (c_JArr_fill l dC dI cI cB cJ cZ q6 H.size 64 (fun _ => 0) (-1) (by decide)) ⟨callB_of 2 hT (gwt_in w_1_226) rfl rfl rfl (hT _ w_1_7) (hT _ w_1_224) (by decide +kernel) ⟨Nat.le_of_ble_eq_true rfl, Nat.le_of_ble_eq_true rfl⟩, hT _ w_1_225⟩ ⟨PC.blind, PC.at _ hPc hDc hK hN⟩ rfl rfl hl.1 rfl (lv_room (Nat.le_of_ble_eq_true rfl)) d_Rec_init_78 ⟨show _ ≤ 8 by omega, show _ ≤ 114128 by omega⟩) hS (fun q _ h => hFc q h) hFc (fun  u t H1 locs ht hvm hw hB hz1 hk1 hS => ?_)
  obtain ⟨hP1, hD1⟩ := hB
  rw [ht] at hP1
  obtain ⟨hP, hD⟩ := va_join (wr := [(h0, .inr (4, [.int 0, .int 0, .int 0, .int 0, .int 0, .ref q1, .ref q2, .ref q3, .ref q4, .ref q5, .ref q6, .ref q7, .ref q8, .null, .null])), (q1, .inl (cB, 10000, .inl (fun _ => 0))), (q2, .inl (cB, 10000, .inl (fun _ => 0))), (q3, .inl (cJ, 10000, .inr (.inl (fun _ => 0)))), (q4, .inl (cB, 10000, .inl (fun _ => 0))), (q5, .inl (cI, 10000, .inl (fun _ => 0))), (q7, .inl (cI, 64, .inl (fun _ => 0))), (q8, .inl (cB, 64000, .inl (fun _ => 0)))]) (w1 := [(q6, .inl (cI, 64, .inl (fun _ => (-1))))]) hP hD [6] [0, 1, 2, 3, 4, 5, 7, 8] rfl rfl (by decide) (by decide) hk1 hFc hP1 hD1
  generalize H1 = H at hP hS ⊢
  have hP : va_P (dC, dI) CL [(h0, .inr (4, [.int 0, .int 0, .int 0, .int 0, .int 0, .ref q1, .ref q2, .ref q3, .ref q4, .ref q5, .ref q6, .ref q7, .ref q8, .null, .null])), (q1, .inl (cB, 10000, .inl (fun _ => 0))), (q2, .inl (cB, 10000, .inl (fun _ => 0))), (q3, .inl (cJ, 10000, .inr (.inl (fun _ => 0)))), (q4, .inl (cB, 10000, .inl (fun _ => 0))), (q5, .inl (cI, 10000, .inl (fun _ => 0))), (q7, .inl (cI, 64, .inl (fun _ => 0))), (q8, .inl (cB, 64000, .inl (fun _ => 0))), (q6, .inl (cI, 64, .inl (fun _ => (-1))))] H := hP
  have hD : va_D A [(h0, .inr (4, [.int 0, .int 0, .int 0, .int 0, .int 0, .ref q1, .ref q2, .ref q3, .ref q4, .ref q5, .ref q6, .ref q7, .ref q8, .null, .null])), (q1, .inl (cB, 10000, .inl (fun _ => 0))), (q2, .inl (cB, 10000, .inl (fun _ => 0))), (q3, .inl (cJ, 10000, .inr (.inl (fun _ => 0)))), (q4, .inl (cB, 10000, .inl (fun _ => 0))), (q5, .inl (cI, 10000, .inl (fun _ => 0))), (q7, .inl (cI, 64, .inl (fun _ => 0))), (q8, .inl (cB, 64000, .inl (fun _ => 0))), (q6, .inl (cI, 64, .inl (fun _ => (-1))))] := hD
  refine lv_aload_n hx hb d_Rec_init_81 rfl (lv_at hl 0 rfl) ?_
  refine f_get (D := (dC, dI)) (ci := 4) (v := .ref q7) (C := R_Rec) (T := F_Rec) (N := 15) hx hb hT in_Rec hown hK hP 0 rfl rfl 11 (by decide) fr_Rec_11 w_2_5 rfl d_Rec_init_82 ?_
  refine lv_iconst (v := (-1)) hx hb d_Rec_init_85 (by decide) ?_
  have hPc := hP.sub (ws' := [(q7, .inl (cI, 64, .inl (fun _ => 0)))]) [6] rfl
  have hDc := hD.sub (ws' := [(q7, .inl (cI, 64, .inl (fun _ => 0)))]) [6] (by decide) rfl
  have hFc := va_free (wc := [(q7, .inl (cI, 64, .inl (fun _ => 0)))]) hD hS hA [6] rfl
  refine va_callv (va_runS (As := [.ref q7, .int (-1)]) (rest := []) ⟨hx, hb, hml, hown, hT⟩ (c_JArr_fill l dC dI cI cB cJ cZ q7 H.size 64 (fun _ => 0) (-1) (by decide)) ⟨callB_of 2 hT (gwt_in w_1_226) rfl rfl rfl (hT _ w_1_7) (hT _ w_1_224) (by decide +kernel) ⟨Nat.le_of_ble_eq_true rfl, Nat.le_of_ble_eq_true rfl⟩, hT _ w_1_225⟩ ⟨PC.blind, PC.at _ hPc hDc hK hN⟩ rfl rfl hl.1 rfl (lv_room (Nat.le_of_ble_eq_true rfl)) d_Rec_init_86 ⟨show _ ≤ 8 by omega, show _ ≤ 114128 by omega⟩) hS (fun q _ h => hFc q h) hFc (fun  u t H1 locs ht hvm hw hB hz1 hk1 hS => ?_)
  obtain ⟨hP1, hD1⟩ := hB
  rw [ht] at hP1
  obtain ⟨hP, hD⟩ := va_join (wr := [(h0, .inr (4, [.int 0, .int 0, .int 0, .int 0, .int 0, .ref q1, .ref q2, .ref q3, .ref q4, .ref q5, .ref q6, .ref q7, .ref q8, .null, .null])), (q1, .inl (cB, 10000, .inl (fun _ => 0))), (q2, .inl (cB, 10000, .inl (fun _ => 0))), (q3, .inl (cJ, 10000, .inr (.inl (fun _ => 0)))), (q4, .inl (cB, 10000, .inl (fun _ => 0))), (q5, .inl (cI, 10000, .inl (fun _ => 0))), (q8, .inl (cB, 64000, .inl (fun _ => 0))), (q6, .inl (cI, 64, .inl (fun _ => (-1))))]) (w1 := [(q7, .inl (cI, 64, .inl (fun _ => (-1))))]) hP hD [6] [0, 1, 2, 3, 4, 5, 7, 8] rfl rfl (by decide) (by decide) hk1 hFc hP1 hD1
  generalize H1 = H at hP hS ⊢
  have hP : va_P (dC, dI) CL [(h0, .inr (4, [.int 0, .int 0, .int 0, .int 0, .int 0, .ref q1, .ref q2, .ref q3, .ref q4, .ref q5, .ref q6, .ref q7, .ref q8, .null, .null])), (q1, .inl (cB, 10000, .inl (fun _ => 0))), (q2, .inl (cB, 10000, .inl (fun _ => 0))), (q3, .inl (cJ, 10000, .inr (.inl (fun _ => 0)))), (q4, .inl (cB, 10000, .inl (fun _ => 0))), (q5, .inl (cI, 10000, .inl (fun _ => 0))), (q8, .inl (cB, 64000, .inl (fun _ => 0))), (q6, .inl (cI, 64, .inl (fun _ => (-1)))), (q7, .inl (cI, 64, .inl (fun _ => (-1))))] H := hP
  have hD : va_D A [(h0, .inr (4, [.int 0, .int 0, .int 0, .int 0, .int 0, .ref q1, .ref q2, .ref q3, .ref q4, .ref q5, .ref q6, .ref q7, .ref q8, .null, .null])), (q1, .inl (cB, 10000, .inl (fun _ => 0))), (q2, .inl (cB, 10000, .inl (fun _ => 0))), (q3, .inl (cJ, 10000, .inr (.inl (fun _ => 0)))), (q4, .inl (cB, 10000, .inl (fun _ => 0))), (q5, .inl (cI, 10000, .inl (fun _ => 0))), (q8, .inl (cB, 64000, .inl (fun _ => 0))), (q6, .inl (cI, 64, .inl (fun _ => (-1)))), (q7, .inl (cI, 64, .inl (fun _ => (-1))))] := hD
  refine W.widen (k := 8) (n := 114128) (by omega) (by omega) ?_
  exact W.vret hx hb hr (fun t ht hW => ⟨⟨(), rfl, trivial, ⟨q1, q2, q3, q4, q5, q8, q6, q7, by rw [ht]; exact hP, hD⟩⟩, hS.F ht⟩) hS.2.2 d_Rec_init_89
set_option maxHeartbeats 4000000 in
set_option maxRecDepth 100000 in
/-- Qry_init -/
theorem c_Qry_init (h0 sz : Nat) : Met l y_Qry_init (wsOf y_Qry_init b_Qry_init 1 none) ({ frames := 1, cells := 10, slots := 2631, locals := 14 }) (va_Pc [.ref h0] (PC dC dI cI cB cJ cZ sz [(h0, .inr (9, [.int 0, .int 0, .null, .null, .null, .int 0, .null, .int 0, .int 0, .null, .null, .null, .null, .int 0, .null, .int 0, .null, .null, .null, .int 0]))])) (va_Qv (fun _ : Unit => True) (fun _ t => ∃ q1 q2 q3 q4 q5 q6 q7 q8 q9 q10 : Nat, va_P (dC, dI) CL [(h0, .inr (9, [.int 0, .int 0, .ref q1, .ref q2, .ref q3, .int 0, .ref q4, .int 0, .int 0, .ref q5, .ref q6, .ref q7, .ref q8, .int 0, .ref q9, .int 0, .ref q10, .null, .null, .int 0])), (q1, .inl (cI, 16, .inl (fun _ => 0))), (q2, .inl (cI, 16, .inl (fun _ => 0))), (q3, .inl (cI, 16, .inl (fun _ => 0))), (q4, .inl (cI, 8, .inl (fun _ => 0))), (q5, .inl (cI, 64, .inl (fun _ => 0))), (q6, .inl (cI, 64, .inl (fun _ => 0))), (q7, .inl (cI, 64, .inl (fun _ => 0))), (q8, .inl (cI, 64, .inl (fun _ => 0))), (q9, .inl (cJ, 64, .inr (.inl (fun _ => 0)))), (q10, .inl (cB, 2255, .inl (fun _ => 0)))] t.heap ∧ va_D (va_A [(h0, .inr (9, [.int 0, .int 0, .null, .null, .null, .int 0, .null, .int 0, .int 0, .null, .null, .null, .null, .int 0, .null, .int 0, .null, .null, .null, .int 0]))] sz) [(h0, .inr (9, [.int 0, .int 0, .ref q1, .ref q2, .ref q3, .int 0, .ref q4, .int 0, .int 0, .ref q5, .ref q6, .ref q7, .ref q8, .int 0, .ref q9, .int 0, .ref q10, .null, .null, .int 0])), (q1, .inl (cI, 16, .inl (fun _ => 0))), (q2, .inl (cI, 16, .inl (fun _ => 0))), (q3, .inl (cI, 16, .inl (fun _ => 0))), (q4, .inl (cI, 8, .inl (fun _ => 0))), (q5, .inl (cI, 64, .inl (fun _ => 0))), (q6, .inl (cI, 64, .inl (fun _ => 0))), (q7, .inl (cI, 64, .inl (fun _ => 0))), (q8, .inl (cI, 64, .inl (fun _ => 0))), (q9, .inl (cJ, 64, .inr (.inl (fun _ => 0)))), (q10, .inl (cB, 2255, .inl (fun _ => 0)))]) (va_A [(h0, .inr (9, [.int 0, .int 0, .null, .null, .null, .int 0, .null, .int 0, .int 0, .null, .null, .null, .null, .int 0, .null, .int 0, .null, .null, .null, .int 0]))] sz)) 10 2631 (va_A [(h0, .inr (9, [.int 0, .int 0, .null, .null, .null, .int 0, .null, .int 0, .int 0, .null, .null, .null, .null, .int 0, .null, .int 0, .null, .null, .null, .int 0]))] sz) := by
  refine Met.ofW (cc := b_Qry_init) (maxL := 1) (ret := none) (by decide) rfl ?_
  intro p e s m args below meth c s₁ B hml hv
  obtain ⟨rfl, hsz, hP, hK, hD0, hN⟩ := hv
  have hx := B.exec
  have hb := B.bytes
  have hr := B.returns
  have hts := atoms_spec B.pre
  have hT : ∀ w ∈ TG, w.before _ s = true := fun w h => hts w (List.mem_cons_of_mem _ h)
  have hown : s.vm.findClass R_Qry = some m.cls := findClass_of_methodNamed B.named
  have hlocks := B.notSynchronized
  have hin : meth.name = "<init>" := (name_of_methodNamed B.named B.method).1
  subst hsz
  have hD := hD0.self (sz := s.heap.size)
  generalize hAe : va_A [(h0, .inr (9, [.int 0, .int 0, .null, .null, .null, .int 0, .null, .int 0, .int 0, .null, .null, .null, .null, .int 0, .null, .int 0, .null, .null, .null, .int 0]))] s.heap.size = A at hD ⊢
  have hA : ∀ q : Nat, s.heap.size ≤ q → A q := fun q h => by rw [← hAe]; exact Or.inr h
  have hS : va_S A s.heap s.heap [] := va_S.rf
  have hl := lv_entry ([.ref h0]) (n := 1) (Nat.le_of_ble_eq_true rfl)
  rw [lg_entry_eq]
  generalize (lg_sl ([.ref h0]) ++ List.replicate (1 - (lg_sl ([.ref h0])).length) Slot.unset).toArray = ls at hl ⊢
  have hl : lv_has ls 1 [(0, .ref h0)] := hl
  refine lv_aload_n hx hb d_Qry_init_0 rfl (lv_at hl 0 rfl) ?_
  refine W.objInit hx hb hown (hT _ w_3_73) (hT _ w_1_28) (hT _ w_obj) rfl (by rw [hml]; exact hl.1) rfl d_Qry_init_1 (Nat.le_of_ble_eq_true rfl) (Nat.le_of_ble_eq_true rfl) ?_
  refine W.eq (g2 := F0 m 4 ls []) rfl ?_
  refine lv_aload_n hx hb d_Qry_init_4 rfl (lv_at hl 0 rfl) ?_
  refine lv_bipush (v := 16) hx hb d_Qry_init_5 (by decide) ?_
  refine nw_int (N' := 16) hx hb hT w_1_69 hK hP hD hS hA (by decide) (by decide) (by decide) (show _ ≤ 10 by omega) (show _ ≤ 2631 by omega) d_Qry_init_7 (fun q1 H hP hD hS => ?_)
  have hP : va_P (dC, dI) CL [(h0, .inr (9, [.int 0, .int 0, .null, .null, .null, .int 0, .null, .int 0, .int 0, .null, .null, .null, .null, .int 0, .null, .int 0, .null, .null, .null, .int 0])), (q1, .inl (cI, 16, .inl (fun _ => 0)))] H := hP
  have hD : va_D A [(h0, .inr (9, [.int 0, .int 0, .null, .null, .null, .int 0, .null, .int 0, .int 0, .null, .null, .null, .null, .int 0, .null, .int 0, .null, .null, .null, .int 0])), (q1, .inl (cI, 16, .inl (fun _ => 0)))] := hD
  refine W.widen (k := 1) (n := 16) (by omega) (by omega) ?_
  refine f_putF (D := (dC, dI)) (ci := 9) (v := .ref q1) (ty := .array .int) (C := R_Qry) (T := F_Qry) (N := 20) hx hb hT in_Qry t_Qry t_Qry_ok n_Qry hown hK hP hD hS 0 rfl rfl 2 (by decide) fr_Qry_2 w_3_78 hin (by decide +kernel) rfl rfl (Nat.le_of_ble_eq_true rfl) d_Qry_init_9 (fun H locs hP hD hS => ?_)
  have hP : va_P (dC, dI) CL [(h0, .inr (9, [.int 0, .int 0, .ref q1, .null, .null, .int 0, .null, .int 0, .int 0, .null, .null, .null, .null, .int 0, .null, .int 0, .null, .null, .null, .int 0])), (q1, .inl (cI, 16, .inl (fun _ => 0)))] H := hP
  have hD : va_D A [(h0, .inr (9, [.int 0, .int 0, .ref q1, .null, .null, .int 0, .null, .int 0, .int 0, .null, .null, .null, .null, .int 0, .null, .int 0, .null, .null, .null, .int 0])), (q1, .inl (cI, 16, .inl (fun _ => 0)))] := hD
  refine lv_aload_n hx hb d_Qry_init_12 rfl (lv_at hl 0 rfl) ?_
  refine lv_bipush (v := 16) hx hb d_Qry_init_13 (by decide) ?_
  refine nw_int (N' := 16) hx hb hT w_1_69 hK hP hD hS hA (by decide) (by decide) (by decide) (show _ ≤ 10 by omega) (show _ ≤ 2631 by omega) d_Qry_init_15 (fun q2 H hP hD hS => ?_)
  have hP : va_P (dC, dI) CL [(h0, .inr (9, [.int 0, .int 0, .ref q1, .null, .null, .int 0, .null, .int 0, .int 0, .null, .null, .null, .null, .int 0, .null, .int 0, .null, .null, .null, .int 0])), (q1, .inl (cI, 16, .inl (fun _ => 0))), (q2, .inl (cI, 16, .inl (fun _ => 0)))] H := hP
  have hD : va_D A [(h0, .inr (9, [.int 0, .int 0, .ref q1, .null, .null, .int 0, .null, .int 0, .int 0, .null, .null, .null, .null, .int 0, .null, .int 0, .null, .null, .null, .int 0])), (q1, .inl (cI, 16, .inl (fun _ => 0))), (q2, .inl (cI, 16, .inl (fun _ => 0)))] := hD
  refine W.widen (k := 2) (n := 32) (by omega) (by omega) ?_
  refine f_putF (D := (dC, dI)) (ci := 9) (v := .ref q2) (ty := .array .int) (C := R_Qry) (T := F_Qry) (N := 20) hx hb hT in_Qry t_Qry t_Qry_ok n_Qry hown hK hP hD hS 0 rfl rfl 3 (by decide) fr_Qry_3 w_3_80 hin (by decide +kernel) rfl rfl (Nat.le_of_ble_eq_true rfl) d_Qry_init_17 (fun H locs hP hD hS => ?_)
  have hP : va_P (dC, dI) CL [(h0, .inr (9, [.int 0, .int 0, .ref q1, .ref q2, .null, .int 0, .null, .int 0, .int 0, .null, .null, .null, .null, .int 0, .null, .int 0, .null, .null, .null, .int 0])), (q1, .inl (cI, 16, .inl (fun _ => 0))), (q2, .inl (cI, 16, .inl (fun _ => 0)))] H := hP
  have hD : va_D A [(h0, .inr (9, [.int 0, .int 0, .ref q1, .ref q2, .null, .int 0, .null, .int 0, .int 0, .null, .null, .null, .null, .int 0, .null, .int 0, .null, .null, .null, .int 0])), (q1, .inl (cI, 16, .inl (fun _ => 0))), (q2, .inl (cI, 16, .inl (fun _ => 0)))] := hD
  refine lv_aload_n hx hb d_Qry_init_20 rfl (lv_at hl 0 rfl) ?_
  refine lv_bipush (v := 16) hx hb d_Qry_init_21 (by decide) ?_
  refine nw_int (N' := 16) hx hb hT w_1_69 hK hP hD hS hA (by decide) (by decide) (by decide) (show _ ≤ 10 by omega) (show _ ≤ 2631 by omega) d_Qry_init_23 (fun q3 H hP hD hS => ?_)
  have hP : va_P (dC, dI) CL [(h0, .inr (9, [.int 0, .int 0, .ref q1, .ref q2, .null, .int 0, .null, .int 0, .int 0, .null, .null, .null, .null, .int 0, .null, .int 0, .null, .null, .null, .int 0])), (q1, .inl (cI, 16, .inl (fun _ => 0))), (q2, .inl (cI, 16, .inl (fun _ => 0))), (q3, .inl (cI, 16, .inl (fun _ => 0)))] H := hP
  have hD : va_D A [(h0, .inr (9, [.int 0, .int 0, .ref q1, .ref q2, .null, .int 0, .null, .int 0, .int 0, .null, .null, .null, .null, .int 0, .null, .int 0, .null, .null, .null, .int 0])), (q1, .inl (cI, 16, .inl (fun _ => 0))), (q2, .inl (cI, 16, .inl (fun _ => 0))), (q3, .inl (cI, 16, .inl (fun _ => 0)))] := hD
  refine W.widen (k := 3) (n := 48) (by omega) (by omega) ?_
  refine f_putF (D := (dC, dI)) (ci := 9) (v := .ref q3) (ty := .array .int) (C := R_Qry) (T := F_Qry) (N := 20) hx hb hT in_Qry t_Qry t_Qry_ok n_Qry hown hK hP hD hS 0 rfl rfl 4 (by decide) fr_Qry_4 w_3_82 hin (by decide +kernel) rfl rfl (Nat.le_of_ble_eq_true rfl) d_Qry_init_25 (fun H locs hP hD hS => ?_)
  have hP : va_P (dC, dI) CL [(h0, .inr (9, [.int 0, .int 0, .ref q1, .ref q2, .ref q3, .int 0, .null, .int 0, .int 0, .null, .null, .null, .null, .int 0, .null, .int 0, .null, .null, .null, .int 0])), (q1, .inl (cI, 16, .inl (fun _ => 0))), (q2, .inl (cI, 16, .inl (fun _ => 0))), (q3, .inl (cI, 16, .inl (fun _ => 0)))] H := hP
  have hD : va_D A [(h0, .inr (9, [.int 0, .int 0, .ref q1, .ref q2, .ref q3, .int 0, .null, .int 0, .int 0, .null, .null, .null, .null, .int 0, .null, .int 0, .null, .null, .null, .int 0])), (q1, .inl (cI, 16, .inl (fun _ => 0))), (q2, .inl (cI, 16, .inl (fun _ => 0))), (q3, .inl (cI, 16, .inl (fun _ => 0)))] := hD
  refine lv_aload_n hx hb d_Qry_init_28 rfl (lv_at hl 0 rfl) ?_
  refine lv_bipush (v := 8) hx hb d_Qry_init_29 (by decide) ?_
  refine nw_int (N' := 8) hx hb hT w_1_69 hK hP hD hS hA (by decide) (by decide) (by decide) (show _ ≤ 10 by omega) (show _ ≤ 2631 by omega) d_Qry_init_31 (fun q4 H hP hD hS => ?_)
  have hP : va_P (dC, dI) CL [(h0, .inr (9, [.int 0, .int 0, .ref q1, .ref q2, .ref q3, .int 0, .null, .int 0, .int 0, .null, .null, .null, .null, .int 0, .null, .int 0, .null, .null, .null, .int 0])), (q1, .inl (cI, 16, .inl (fun _ => 0))), (q2, .inl (cI, 16, .inl (fun _ => 0))), (q3, .inl (cI, 16, .inl (fun _ => 0))), (q4, .inl (cI, 8, .inl (fun _ => 0)))] H := hP
  have hD : va_D A [(h0, .inr (9, [.int 0, .int 0, .ref q1, .ref q2, .ref q3, .int 0, .null, .int 0, .int 0, .null, .null, .null, .null, .int 0, .null, .int 0, .null, .null, .null, .int 0])), (q1, .inl (cI, 16, .inl (fun _ => 0))), (q2, .inl (cI, 16, .inl (fun _ => 0))), (q3, .inl (cI, 16, .inl (fun _ => 0))), (q4, .inl (cI, 8, .inl (fun _ => 0)))] := hD
  refine W.widen (k := 4) (n := 56) (by omega) (by omega) ?_
  refine f_putF (D := (dC, dI)) (ci := 9) (v := .ref q4) (ty := .array .int) (C := R_Qry) (T := F_Qry) (N := 20) hx hb hT in_Qry t_Qry t_Qry_ok n_Qry hown hK hP hD hS 0 rfl rfl 6 (by decide) fr_Qry_6 w_3_85 hin (by decide +kernel) rfl rfl (Nat.le_of_ble_eq_true rfl) d_Qry_init_33 (fun H locs hP hD hS => ?_)
  have hP : va_P (dC, dI) CL [(h0, .inr (9, [.int 0, .int 0, .ref q1, .ref q2, .ref q3, .int 0, .ref q4, .int 0, .int 0, .null, .null, .null, .null, .int 0, .null, .int 0, .null, .null, .null, .int 0])), (q1, .inl (cI, 16, .inl (fun _ => 0))), (q2, .inl (cI, 16, .inl (fun _ => 0))), (q3, .inl (cI, 16, .inl (fun _ => 0))), (q4, .inl (cI, 8, .inl (fun _ => 0)))] H := hP
  have hD : va_D A [(h0, .inr (9, [.int 0, .int 0, .ref q1, .ref q2, .ref q3, .int 0, .ref q4, .int 0, .int 0, .null, .null, .null, .null, .int 0, .null, .int 0, .null, .null, .null, .int 0])), (q1, .inl (cI, 16, .inl (fun _ => 0))), (q2, .inl (cI, 16, .inl (fun _ => 0))), (q3, .inl (cI, 16, .inl (fun _ => 0))), (q4, .inl (cI, 8, .inl (fun _ => 0)))] := hD
  refine lv_aload_n hx hb d_Qry_init_36 rfl (lv_at hl 0 rfl) ?_
  refine lv_bipush (v := 64) hx hb d_Qry_init_37 (by decide) ?_
  refine nw_int (N' := 64) hx hb hT w_1_69 hK hP hD hS hA (by decide) (by decide) (by decide) (show _ ≤ 10 by omega) (show _ ≤ 2631 by omega) d_Qry_init_39 (fun q5 H hP hD hS => ?_)
  have hP : va_P (dC, dI) CL [(h0, .inr (9, [.int 0, .int 0, .ref q1, .ref q2, .ref q3, .int 0, .ref q4, .int 0, .int 0, .null, .null, .null, .null, .int 0, .null, .int 0, .null, .null, .null, .int 0])), (q1, .inl (cI, 16, .inl (fun _ => 0))), (q2, .inl (cI, 16, .inl (fun _ => 0))), (q3, .inl (cI, 16, .inl (fun _ => 0))), (q4, .inl (cI, 8, .inl (fun _ => 0))), (q5, .inl (cI, 64, .inl (fun _ => 0)))] H := hP
  have hD : va_D A [(h0, .inr (9, [.int 0, .int 0, .ref q1, .ref q2, .ref q3, .int 0, .ref q4, .int 0, .int 0, .null, .null, .null, .null, .int 0, .null, .int 0, .null, .null, .null, .int 0])), (q1, .inl (cI, 16, .inl (fun _ => 0))), (q2, .inl (cI, 16, .inl (fun _ => 0))), (q3, .inl (cI, 16, .inl (fun _ => 0))), (q4, .inl (cI, 8, .inl (fun _ => 0))), (q5, .inl (cI, 64, .inl (fun _ => 0)))] := hD
  refine W.widen (k := 5) (n := 120) (by omega) (by omega) ?_
  refine f_putF (D := (dC, dI)) (ci := 9) (v := .ref q5) (ty := .array .int) (C := R_Qry) (T := F_Qry) (N := 20) hx hb hT in_Qry t_Qry t_Qry_ok n_Qry hown hK hP hD hS 0 rfl rfl 9 (by decide) fr_Qry_9 w_3_91 hin (by decide +kernel) rfl rfl (Nat.le_of_ble_eq_true rfl) d_Qry_init_41 (fun H locs hP hD hS => ?_)
  have hP : va_P (dC, dI) CL [(h0, .inr (9, [.int 0, .int 0, .ref q1, .ref q2, .ref q3, .int 0, .ref q4, .int 0, .int 0, .ref q5, .null, .null, .null, .int 0, .null, .int 0, .null, .null, .null, .int 0])), (q1, .inl (cI, 16, .inl (fun _ => 0))), (q2, .inl (cI, 16, .inl (fun _ => 0))), (q3, .inl (cI, 16, .inl (fun _ => 0))), (q4, .inl (cI, 8, .inl (fun _ => 0))), (q5, .inl (cI, 64, .inl (fun _ => 0)))] H := hP
  have hD : va_D A [(h0, .inr (9, [.int 0, .int 0, .ref q1, .ref q2, .ref q3, .int 0, .ref q4, .int 0, .int 0, .ref q5, .null, .null, .null, .int 0, .null, .int 0, .null, .null, .null, .int 0])), (q1, .inl (cI, 16, .inl (fun _ => 0))), (q2, .inl (cI, 16, .inl (fun _ => 0))), (q3, .inl (cI, 16, .inl (fun _ => 0))), (q4, .inl (cI, 8, .inl (fun _ => 0))), (q5, .inl (cI, 64, .inl (fun _ => 0)))] := hD
  refine lv_aload_n hx hb d_Qry_init_44 rfl (lv_at hl 0 rfl) ?_
  refine lv_bipush (v := 64) hx hb d_Qry_init_45 (by decide) ?_
  refine nw_int (N' := 64) hx hb hT w_1_69 hK hP hD hS hA (by decide) (by decide) (by decide) (show _ ≤ 10 by omega) (show _ ≤ 2631 by omega) d_Qry_init_47 (fun q6 H hP hD hS => ?_)
  have hP : va_P (dC, dI) CL [(h0, .inr (9, [.int 0, .int 0, .ref q1, .ref q2, .ref q3, .int 0, .ref q4, .int 0, .int 0, .ref q5, .null, .null, .null, .int 0, .null, .int 0, .null, .null, .null, .int 0])), (q1, .inl (cI, 16, .inl (fun _ => 0))), (q2, .inl (cI, 16, .inl (fun _ => 0))), (q3, .inl (cI, 16, .inl (fun _ => 0))), (q4, .inl (cI, 8, .inl (fun _ => 0))), (q5, .inl (cI, 64, .inl (fun _ => 0))), (q6, .inl (cI, 64, .inl (fun _ => 0)))] H := hP
  have hD : va_D A [(h0, .inr (9, [.int 0, .int 0, .ref q1, .ref q2, .ref q3, .int 0, .ref q4, .int 0, .int 0, .ref q5, .null, .null, .null, .int 0, .null, .int 0, .null, .null, .null, .int 0])), (q1, .inl (cI, 16, .inl (fun _ => 0))), (q2, .inl (cI, 16, .inl (fun _ => 0))), (q3, .inl (cI, 16, .inl (fun _ => 0))), (q4, .inl (cI, 8, .inl (fun _ => 0))), (q5, .inl (cI, 64, .inl (fun _ => 0))), (q6, .inl (cI, 64, .inl (fun _ => 0)))] := hD
  refine W.widen (k := 6) (n := 184) (by omega) (by omega) ?_
  refine f_putF (D := (dC, dI)) (ci := 9) (v := .ref q6) (ty := .array .int) (C := R_Qry) (T := F_Qry) (N := 20) hx hb hT in_Qry t_Qry t_Qry_ok n_Qry hown hK hP hD hS 0 rfl rfl 10 (by decide) fr_Qry_10 w_3_93 hin (by decide +kernel) rfl rfl (Nat.le_of_ble_eq_true rfl) d_Qry_init_49 (fun H locs hP hD hS => ?_)
  have hP : va_P (dC, dI) CL [(h0, .inr (9, [.int 0, .int 0, .ref q1, .ref q2, .ref q3, .int 0, .ref q4, .int 0, .int 0, .ref q5, .ref q6, .null, .null, .int 0, .null, .int 0, .null, .null, .null, .int 0])), (q1, .inl (cI, 16, .inl (fun _ => 0))), (q2, .inl (cI, 16, .inl (fun _ => 0))), (q3, .inl (cI, 16, .inl (fun _ => 0))), (q4, .inl (cI, 8, .inl (fun _ => 0))), (q5, .inl (cI, 64, .inl (fun _ => 0))), (q6, .inl (cI, 64, .inl (fun _ => 0)))] H := hP
  have hD : va_D A [(h0, .inr (9, [.int 0, .int 0, .ref q1, .ref q2, .ref q3, .int 0, .ref q4, .int 0, .int 0, .ref q5, .ref q6, .null, .null, .int 0, .null, .int 0, .null, .null, .null, .int 0])), (q1, .inl (cI, 16, .inl (fun _ => 0))), (q2, .inl (cI, 16, .inl (fun _ => 0))), (q3, .inl (cI, 16, .inl (fun _ => 0))), (q4, .inl (cI, 8, .inl (fun _ => 0))), (q5, .inl (cI, 64, .inl (fun _ => 0))), (q6, .inl (cI, 64, .inl (fun _ => 0)))] := hD
  refine lv_aload_n hx hb d_Qry_init_52 rfl (lv_at hl 0 rfl) ?_
  refine lv_bipush (v := 64) hx hb d_Qry_init_53 (by decide) ?_
  refine nw_int (N' := 64) hx hb hT w_1_69 hK hP hD hS hA (by decide) (by decide) (by decide) (show _ ≤ 10 by omega) (show _ ≤ 2631 by omega) d_Qry_init_55 (fun q7 H hP hD hS => ?_)
  have hP : va_P (dC, dI) CL [(h0, .inr (9, [.int 0, .int 0, .ref q1, .ref q2, .ref q3, .int 0, .ref q4, .int 0, .int 0, .ref q5, .ref q6, .null, .null, .int 0, .null, .int 0, .null, .null, .null, .int 0])), (q1, .inl (cI, 16, .inl (fun _ => 0))), (q2, .inl (cI, 16, .inl (fun _ => 0))), (q3, .inl (cI, 16, .inl (fun _ => 0))), (q4, .inl (cI, 8, .inl (fun _ => 0))), (q5, .inl (cI, 64, .inl (fun _ => 0))), (q6, .inl (cI, 64, .inl (fun _ => 0))), (q7, .inl (cI, 64, .inl (fun _ => 0)))] H := hP
  have hD : va_D A [(h0, .inr (9, [.int 0, .int 0, .ref q1, .ref q2, .ref q3, .int 0, .ref q4, .int 0, .int 0, .ref q5, .ref q6, .null, .null, .int 0, .null, .int 0, .null, .null, .null, .int 0])), (q1, .inl (cI, 16, .inl (fun _ => 0))), (q2, .inl (cI, 16, .inl (fun _ => 0))), (q3, .inl (cI, 16, .inl (fun _ => 0))), (q4, .inl (cI, 8, .inl (fun _ => 0))), (q5, .inl (cI, 64, .inl (fun _ => 0))), (q6, .inl (cI, 64, .inl (fun _ => 0))), (q7, .inl (cI, 64, .inl (fun _ => 0)))] := hD
  refine W.widen (k := 7) (n := 248) (by omega) (by omega) ?_
  refine f_putF (D := (dC, dI)) (ci := 9) (v := .ref q7) (ty := .array .int) (C := R_Qry) (T := F_Qry) (N := 20) hx hb hT in_Qry t_Qry t_Qry_ok n_Qry hown hK hP hD hS 0 rfl rfl 11 (by decide) fr_Qry_11 w_3_95 hin (by decide +kernel) rfl rfl (Nat.le_of_ble_eq_true rfl) d_Qry_init_57 (fun H locs hP hD hS => ?_)
  have hP : va_P (dC, dI) CL [(h0, .inr (9, [.int 0, .int 0, .ref q1, .ref q2, .ref q3, .int 0, .ref q4, .int 0, .int 0, .ref q5, .ref q6, .ref q7, .null, .int 0, .null, .int 0, .null, .null, .null, .int 0])), (q1, .inl (cI, 16, .inl (fun _ => 0))), (q2, .inl (cI, 16, .inl (fun _ => 0))), (q3, .inl (cI, 16, .inl (fun _ => 0))), (q4, .inl (cI, 8, .inl (fun _ => 0))), (q5, .inl (cI, 64, .inl (fun _ => 0))), (q6, .inl (cI, 64, .inl (fun _ => 0))), (q7, .inl (cI, 64, .inl (fun _ => 0)))] H := hP
  have hD : va_D A [(h0, .inr (9, [.int 0, .int 0, .ref q1, .ref q2, .ref q3, .int 0, .ref q4, .int 0, .int 0, .ref q5, .ref q6, .ref q7, .null, .int 0, .null, .int 0, .null, .null, .null, .int 0])), (q1, .inl (cI, 16, .inl (fun _ => 0))), (q2, .inl (cI, 16, .inl (fun _ => 0))), (q3, .inl (cI, 16, .inl (fun _ => 0))), (q4, .inl (cI, 8, .inl (fun _ => 0))), (q5, .inl (cI, 64, .inl (fun _ => 0))), (q6, .inl (cI, 64, .inl (fun _ => 0))), (q7, .inl (cI, 64, .inl (fun _ => 0)))] := hD
  refine lv_aload_n hx hb d_Qry_init_60 rfl (lv_at hl 0 rfl) ?_
  refine lv_bipush (v := 64) hx hb d_Qry_init_61 (by decide) ?_
  refine nw_int (N' := 64) hx hb hT w_1_69 hK hP hD hS hA (by decide) (by decide) (by decide) (show _ ≤ 10 by omega) (show _ ≤ 2631 by omega) d_Qry_init_63 (fun q8 H hP hD hS => ?_)
  have hP : va_P (dC, dI) CL [(h0, .inr (9, [.int 0, .int 0, .ref q1, .ref q2, .ref q3, .int 0, .ref q4, .int 0, .int 0, .ref q5, .ref q6, .ref q7, .null, .int 0, .null, .int 0, .null, .null, .null, .int 0])), (q1, .inl (cI, 16, .inl (fun _ => 0))), (q2, .inl (cI, 16, .inl (fun _ => 0))), (q3, .inl (cI, 16, .inl (fun _ => 0))), (q4, .inl (cI, 8, .inl (fun _ => 0))), (q5, .inl (cI, 64, .inl (fun _ => 0))), (q6, .inl (cI, 64, .inl (fun _ => 0))), (q7, .inl (cI, 64, .inl (fun _ => 0))), (q8, .inl (cI, 64, .inl (fun _ => 0)))] H := hP
  have hD : va_D A [(h0, .inr (9, [.int 0, .int 0, .ref q1, .ref q2, .ref q3, .int 0, .ref q4, .int 0, .int 0, .ref q5, .ref q6, .ref q7, .null, .int 0, .null, .int 0, .null, .null, .null, .int 0])), (q1, .inl (cI, 16, .inl (fun _ => 0))), (q2, .inl (cI, 16, .inl (fun _ => 0))), (q3, .inl (cI, 16, .inl (fun _ => 0))), (q4, .inl (cI, 8, .inl (fun _ => 0))), (q5, .inl (cI, 64, .inl (fun _ => 0))), (q6, .inl (cI, 64, .inl (fun _ => 0))), (q7, .inl (cI, 64, .inl (fun _ => 0))), (q8, .inl (cI, 64, .inl (fun _ => 0)))] := hD
  refine W.widen (k := 8) (n := 312) (by omega) (by omega) ?_
  refine f_putF (D := (dC, dI)) (ci := 9) (v := .ref q8) (ty := .array .int) (C := R_Qry) (T := F_Qry) (N := 20) hx hb hT in_Qry t_Qry t_Qry_ok n_Qry hown hK hP hD hS 0 rfl rfl 12 (by decide) fr_Qry_12 w_3_97 hin (by decide +kernel) rfl rfl (Nat.le_of_ble_eq_true rfl) d_Qry_init_65 (fun H locs hP hD hS => ?_)
  have hP : va_P (dC, dI) CL [(h0, .inr (9, [.int 0, .int 0, .ref q1, .ref q2, .ref q3, .int 0, .ref q4, .int 0, .int 0, .ref q5, .ref q6, .ref q7, .ref q8, .int 0, .null, .int 0, .null, .null, .null, .int 0])), (q1, .inl (cI, 16, .inl (fun _ => 0))), (q2, .inl (cI, 16, .inl (fun _ => 0))), (q3, .inl (cI, 16, .inl (fun _ => 0))), (q4, .inl (cI, 8, .inl (fun _ => 0))), (q5, .inl (cI, 64, .inl (fun _ => 0))), (q6, .inl (cI, 64, .inl (fun _ => 0))), (q7, .inl (cI, 64, .inl (fun _ => 0))), (q8, .inl (cI, 64, .inl (fun _ => 0)))] H := hP
  have hD : va_D A [(h0, .inr (9, [.int 0, .int 0, .ref q1, .ref q2, .ref q3, .int 0, .ref q4, .int 0, .int 0, .ref q5, .ref q6, .ref q7, .ref q8, .int 0, .null, .int 0, .null, .null, .null, .int 0])), (q1, .inl (cI, 16, .inl (fun _ => 0))), (q2, .inl (cI, 16, .inl (fun _ => 0))), (q3, .inl (cI, 16, .inl (fun _ => 0))), (q4, .inl (cI, 8, .inl (fun _ => 0))), (q5, .inl (cI, 64, .inl (fun _ => 0))), (q6, .inl (cI, 64, .inl (fun _ => 0))), (q7, .inl (cI, 64, .inl (fun _ => 0))), (q8, .inl (cI, 64, .inl (fun _ => 0)))] := hD
  refine lv_aload_n hx hb d_Qry_init_68 rfl (lv_at hl 0 rfl) ?_
  refine lv_bipush (v := 64) hx hb d_Qry_init_69 (by decide) ?_
  refine nw_long (N' := 64) hx hb hT w_2_41 hK hP hD hS hA (by decide) (by decide) (by decide) (show _ ≤ 10 by omega) (show _ ≤ 2631 by omega) d_Qry_init_71 (fun q9 H hP hD hS => ?_)
  have hP : va_P (dC, dI) CL [(h0, .inr (9, [.int 0, .int 0, .ref q1, .ref q2, .ref q3, .int 0, .ref q4, .int 0, .int 0, .ref q5, .ref q6, .ref q7, .ref q8, .int 0, .null, .int 0, .null, .null, .null, .int 0])), (q1, .inl (cI, 16, .inl (fun _ => 0))), (q2, .inl (cI, 16, .inl (fun _ => 0))), (q3, .inl (cI, 16, .inl (fun _ => 0))), (q4, .inl (cI, 8, .inl (fun _ => 0))), (q5, .inl (cI, 64, .inl (fun _ => 0))), (q6, .inl (cI, 64, .inl (fun _ => 0))), (q7, .inl (cI, 64, .inl (fun _ => 0))), (q8, .inl (cI, 64, .inl (fun _ => 0))), (q9, .inl (cJ, 64, .inr (.inl (fun _ => 0))))] H := hP
  have hD : va_D A [(h0, .inr (9, [.int 0, .int 0, .ref q1, .ref q2, .ref q3, .int 0, .ref q4, .int 0, .int 0, .ref q5, .ref q6, .ref q7, .ref q8, .int 0, .null, .int 0, .null, .null, .null, .int 0])), (q1, .inl (cI, 16, .inl (fun _ => 0))), (q2, .inl (cI, 16, .inl (fun _ => 0))), (q3, .inl (cI, 16, .inl (fun _ => 0))), (q4, .inl (cI, 8, .inl (fun _ => 0))), (q5, .inl (cI, 64, .inl (fun _ => 0))), (q6, .inl (cI, 64, .inl (fun _ => 0))), (q7, .inl (cI, 64, .inl (fun _ => 0))), (q8, .inl (cI, 64, .inl (fun _ => 0))), (q9, .inl (cJ, 64, .inr (.inl (fun _ => 0))))] := hD
  refine W.widen (k := 9) (n := 376) (by omega) (by omega) ?_
  refine f_putF (D := (dC, dI)) (ci := 9) (v := .ref q9) (ty := .array .long) (C := R_Qry) (T := F_Qry) (N := 20) hx hb hT in_Qry t_Qry t_Qry_ok n_Qry hown hK hP hD hS 0 rfl rfl 14 (by decide) fr_Qry_14 w_3_100 hin (by decide +kernel) rfl rfl (Nat.le_of_ble_eq_true rfl) d_Qry_init_73 (fun H locs hP hD hS => ?_)
  have hP : va_P (dC, dI) CL [(h0, .inr (9, [.int 0, .int 0, .ref q1, .ref q2, .ref q3, .int 0, .ref q4, .int 0, .int 0, .ref q5, .ref q6, .ref q7, .ref q8, .int 0, .ref q9, .int 0, .null, .null, .null, .int 0])), (q1, .inl (cI, 16, .inl (fun _ => 0))), (q2, .inl (cI, 16, .inl (fun _ => 0))), (q3, .inl (cI, 16, .inl (fun _ => 0))), (q4, .inl (cI, 8, .inl (fun _ => 0))), (q5, .inl (cI, 64, .inl (fun _ => 0))), (q6, .inl (cI, 64, .inl (fun _ => 0))), (q7, .inl (cI, 64, .inl (fun _ => 0))), (q8, .inl (cI, 64, .inl (fun _ => 0))), (q9, .inl (cJ, 64, .inr (.inl (fun _ => 0))))] H := hP
  have hD : va_D A [(h0, .inr (9, [.int 0, .int 0, .ref q1, .ref q2, .ref q3, .int 0, .ref q4, .int 0, .int 0, .ref q5, .ref q6, .ref q7, .ref q8, .int 0, .ref q9, .int 0, .null, .null, .null, .int 0])), (q1, .inl (cI, 16, .inl (fun _ => 0))), (q2, .inl (cI, 16, .inl (fun _ => 0))), (q3, .inl (cI, 16, .inl (fun _ => 0))), (q4, .inl (cI, 8, .inl (fun _ => 0))), (q5, .inl (cI, 64, .inl (fun _ => 0))), (q6, .inl (cI, 64, .inl (fun _ => 0))), (q7, .inl (cI, 64, .inl (fun _ => 0))), (q8, .inl (cI, 64, .inl (fun _ => 0))), (q9, .inl (cJ, 64, .inr (.inl (fun _ => 0))))] := hD
  refine lv_aload_n hx hb d_Qry_init_76 rfl (lv_at hl 0 rfl) ?_
  refine lv_sipush (v := 2255) hx hb d_Qry_init_77 (by decide) ?_
  refine nw_byte (N' := 2255) hx hb hT w_1_70 hK hP hD hS hA (by decide) (by decide) (by decide) (show _ ≤ 10 by omega) (show _ ≤ 2631 by omega) d_Qry_init_80 (fun q10 H hP hD hS => ?_)
  have hP : va_P (dC, dI) CL [(h0, .inr (9, [.int 0, .int 0, .ref q1, .ref q2, .ref q3, .int 0, .ref q4, .int 0, .int 0, .ref q5, .ref q6, .ref q7, .ref q8, .int 0, .ref q9, .int 0, .null, .null, .null, .int 0])), (q1, .inl (cI, 16, .inl (fun _ => 0))), (q2, .inl (cI, 16, .inl (fun _ => 0))), (q3, .inl (cI, 16, .inl (fun _ => 0))), (q4, .inl (cI, 8, .inl (fun _ => 0))), (q5, .inl (cI, 64, .inl (fun _ => 0))), (q6, .inl (cI, 64, .inl (fun _ => 0))), (q7, .inl (cI, 64, .inl (fun _ => 0))), (q8, .inl (cI, 64, .inl (fun _ => 0))), (q9, .inl (cJ, 64, .inr (.inl (fun _ => 0)))), (q10, .inl (cB, 2255, .inl (fun _ => 0)))] H := hP
  have hD : va_D A [(h0, .inr (9, [.int 0, .int 0, .ref q1, .ref q2, .ref q3, .int 0, .ref q4, .int 0, .int 0, .ref q5, .ref q6, .ref q7, .ref q8, .int 0, .ref q9, .int 0, .null, .null, .null, .int 0])), (q1, .inl (cI, 16, .inl (fun _ => 0))), (q2, .inl (cI, 16, .inl (fun _ => 0))), (q3, .inl (cI, 16, .inl (fun _ => 0))), (q4, .inl (cI, 8, .inl (fun _ => 0))), (q5, .inl (cI, 64, .inl (fun _ => 0))), (q6, .inl (cI, 64, .inl (fun _ => 0))), (q7, .inl (cI, 64, .inl (fun _ => 0))), (q8, .inl (cI, 64, .inl (fun _ => 0))), (q9, .inl (cJ, 64, .inr (.inl (fun _ => 0)))), (q10, .inl (cB, 2255, .inl (fun _ => 0)))] := hD
  refine W.widen (k := 10) (n := 2631) (by omega) (by omega) ?_
  refine f_putF (D := (dC, dI)) (ci := 9) (v := .ref q10) (ty := .array .byte) (C := R_Qry) (T := F_Qry) (N := 20) hx hb hT in_Qry t_Qry t_Qry_ok n_Qry hown hK hP hD hS 0 rfl rfl 16 (by decide) fr_Qry_16 w_3_103 hin (by decide +kernel) rfl rfl (Nat.le_of_ble_eq_true rfl) d_Qry_init_82 (fun H locs hP hD hS => ?_)
  have hP : va_P (dC, dI) CL [(h0, .inr (9, [.int 0, .int 0, .ref q1, .ref q2, .ref q3, .int 0, .ref q4, .int 0, .int 0, .ref q5, .ref q6, .ref q7, .ref q8, .int 0, .ref q9, .int 0, .ref q10, .null, .null, .int 0])), (q1, .inl (cI, 16, .inl (fun _ => 0))), (q2, .inl (cI, 16, .inl (fun _ => 0))), (q3, .inl (cI, 16, .inl (fun _ => 0))), (q4, .inl (cI, 8, .inl (fun _ => 0))), (q5, .inl (cI, 64, .inl (fun _ => 0))), (q6, .inl (cI, 64, .inl (fun _ => 0))), (q7, .inl (cI, 64, .inl (fun _ => 0))), (q8, .inl (cI, 64, .inl (fun _ => 0))), (q9, .inl (cJ, 64, .inr (.inl (fun _ => 0)))), (q10, .inl (cB, 2255, .inl (fun _ => 0)))] H := hP
  have hD : va_D A [(h0, .inr (9, [.int 0, .int 0, .ref q1, .ref q2, .ref q3, .int 0, .ref q4, .int 0, .int 0, .ref q5, .ref q6, .ref q7, .ref q8, .int 0, .ref q9, .int 0, .ref q10, .null, .null, .int 0])), (q1, .inl (cI, 16, .inl (fun _ => 0))), (q2, .inl (cI, 16, .inl (fun _ => 0))), (q3, .inl (cI, 16, .inl (fun _ => 0))), (q4, .inl (cI, 8, .inl (fun _ => 0))), (q5, .inl (cI, 64, .inl (fun _ => 0))), (q6, .inl (cI, 64, .inl (fun _ => 0))), (q7, .inl (cI, 64, .inl (fun _ => 0))), (q8, .inl (cI, 64, .inl (fun _ => 0))), (q9, .inl (cJ, 64, .inr (.inl (fun _ => 0)))), (q10, .inl (cB, 2255, .inl (fun _ => 0)))] := hD
  refine W.widen (k := 10) (n := 2631) (by omega) (by omega) ?_
  exact W.vret hx hb hr (fun t ht hW => ⟨⟨(), rfl, trivial, ⟨q1, q2, q3, q4, q5, q6, q7, q8, q9, q10, by rw [ht]; exact hP, hD⟩⟩, hS.F ht⟩) hS.2.2 d_Qry_init_85
set_option maxHeartbeats 4000000 in
set_option maxRecDepth 100000 in
/-- Ans_init -/
theorem c_Ans_init (h0 sz : Nat) : Met l y_Ans_init (wsOf y_Ans_init b_Ans_init 1 none) ({ frames := 1, cells := 8, slots := 19345, locals := 14 }) (va_Pc [.ref h0] (PC dC dI cI cB cJ cZ sz [(h0, .inr (10, [.int 0, .int 0, .int 0, .int 0, .null, .null, .int 0, .int 0, .null, .null, .null, .null, .null, .null, .null, .null]))])) (va_Qv (fun _ : Unit => True) (fun _ t => ∃ q1 q2 q3 q4 q5 q6 q7 q8 : Nat, va_P (dC, dI) CL [(h0, .inr (10, [.int 0, .int 0, .int 0, .int 0, .ref q1, .ref q2, .int 0, .int 0, .ref q3, .ref q4, .ref q5, .ref q6, .ref q7, .ref q8, .null, .null])), (q1, .inl (cZ, 128, .inl (fun _ => 0))), (q2, .inl (cI, 2000, .inl (fun _ => 0))), (q3, .inl (cB, 8000, .inl (fun _ => 0))), (q4, .inl (cJ, 8000, .inr (.inl (fun _ => 0)))), (q5, .inl (cI, 1024, .inl (fun _ => 0))), (q6, .inl (cI, 65, .inl (fun _ => 0))), (q7, .inl (cI, 64, .inl (fun _ => 0))), (q8, .inl (cZ, 64, .inl (fun _ => 0)))] t.heap ∧ va_D (va_A [(h0, .inr (10, [.int 0, .int 0, .int 0, .int 0, .null, .null, .int 0, .int 0, .null, .null, .null, .null, .null, .null, .null, .null]))] sz) [(h0, .inr (10, [.int 0, .int 0, .int 0, .int 0, .ref q1, .ref q2, .int 0, .int 0, .ref q3, .ref q4, .ref q5, .ref q6, .ref q7, .ref q8, .null, .null])), (q1, .inl (cZ, 128, .inl (fun _ => 0))), (q2, .inl (cI, 2000, .inl (fun _ => 0))), (q3, .inl (cB, 8000, .inl (fun _ => 0))), (q4, .inl (cJ, 8000, .inr (.inl (fun _ => 0)))), (q5, .inl (cI, 1024, .inl (fun _ => 0))), (q6, .inl (cI, 65, .inl (fun _ => 0))), (q7, .inl (cI, 64, .inl (fun _ => 0))), (q8, .inl (cZ, 64, .inl (fun _ => 0)))]) (va_A [(h0, .inr (10, [.int 0, .int 0, .int 0, .int 0, .null, .null, .int 0, .int 0, .null, .null, .null, .null, .null, .null, .null, .null]))] sz)) 8 19345 (va_A [(h0, .inr (10, [.int 0, .int 0, .int 0, .int 0, .null, .null, .int 0, .int 0, .null, .null, .null, .null, .null, .null, .null, .null]))] sz) := by
  refine Met.ofW (cc := b_Ans_init) (maxL := 1) (ret := none) (by decide) rfl ?_
  intro p e s m args below meth c s₁ B hml hv
  obtain ⟨rfl, hsz, hP, hK, hD0, hN⟩ := hv
  have hx := B.exec
  have hb := B.bytes
  have hr := B.returns
  have hts := atoms_spec B.pre
  have hT : ∀ w ∈ TG, w.before _ s = true := fun w h => hts w (List.mem_cons_of_mem _ h)
  have hown : s.vm.findClass R_Ans = some m.cls := findClass_of_methodNamed B.named
  have hlocks := B.notSynchronized
  have hin : meth.name = "<init>" := (name_of_methodNamed B.named B.method).1
  subst hsz
  have hD := hD0.self (sz := s.heap.size)
  generalize hAe : va_A [(h0, .inr (10, [.int 0, .int 0, .int 0, .int 0, .null, .null, .int 0, .int 0, .null, .null, .null, .null, .null, .null, .null, .null]))] s.heap.size = A at hD ⊢
  have hA : ∀ q : Nat, s.heap.size ≤ q → A q := fun q h => by rw [← hAe]; exact Or.inr h
  have hS : va_S A s.heap s.heap [] := va_S.rf
  have hl := lv_entry ([.ref h0]) (n := 1) (Nat.le_of_ble_eq_true rfl)
  rw [lg_entry_eq]
  generalize (lg_sl ([.ref h0]) ++ List.replicate (1 - (lg_sl ([.ref h0])).length) Slot.unset).toArray = ls at hl ⊢
  have hl : lv_has ls 1 [(0, .ref h0)] := hl
  refine lv_aload_n hx hb d_Ans_init_0 rfl (lv_at hl 0 rfl) ?_
  refine W.objInit hx hb hown (hT _ w_3_154) (hT _ w_1_28) (hT _ w_obj) rfl (by rw [hml]; exact hl.1) rfl d_Ans_init_1 (Nat.le_of_ble_eq_true rfl) (Nat.le_of_ble_eq_true rfl) ?_
  refine W.eq (g2 := F0 m 4 ls []) rfl ?_
  refine lv_aload_n hx hb d_Ans_init_4 rfl (lv_at hl 0 rfl) ?_
  refine lv_sipush (v := 128) hx hb d_Ans_init_5 (by decide) ?_
  refine nw_boolean (N' := 128) hx hb hT w_3_211 hK hP hD hS hA (by decide) (by decide) (by decide) (show _ ≤ 8 by omega) (show _ ≤ 19345 by omega) d_Ans_init_8 (fun q1 H hP hD hS => ?_)
  have hP : va_P (dC, dI) CL [(h0, .inr (10, [.int 0, .int 0, .int 0, .int 0, .null, .null, .int 0, .int 0, .null, .null, .null, .null, .null, .null, .null, .null])), (q1, .inl (cZ, 128, .inl (fun _ => 0)))] H := hP
  have hD : va_D A [(h0, .inr (10, [.int 0, .int 0, .int 0, .int 0, .null, .null, .int 0, .int 0, .null, .null, .null, .null, .null, .null, .null, .null])), (q1, .inl (cZ, 128, .inl (fun _ => 0)))] := hD
  refine W.widen (k := 1) (n := 128) (by omega) (by omega) ?_
  refine f_putF (D := (dC, dI)) (ci := 10) (v := .ref q1) (ty := .array .boolean) (C := R_Ans) (T := F_Ans) (N := 16) hx hb hT in_Ans t_Ans t_Ans_ok n_Ans hown hK hP hD hS 0 rfl rfl 4 (by decide) fr_Ans_4 w_3_163 hin (by decide +kernel) rfl rfl (Nat.le_of_ble_eq_true rfl) d_Ans_init_10 (fun H locs hP hD hS => ?_)
  have hP : va_P (dC, dI) CL [(h0, .inr (10, [.int 0, .int 0, .int 0, .int 0, .ref q1, .null, .int 0, .int 0, .null, .null, .null, .null, .null, .null, .null, .null])), (q1, .inl (cZ, 128, .inl (fun _ => 0)))] H := hP
  have hD : va_D A [(h0, .inr (10, [.int 0, .int 0, .int 0, .int 0, .ref q1, .null, .int 0, .int 0, .null, .null, .null, .null, .null, .null, .null, .null])), (q1, .inl (cZ, 128, .inl (fun _ => 0)))] := hD
  refine lv_aload_n hx hb d_Ans_init_13 rfl (lv_at hl 0 rfl) ?_
  refine lv_sipush (v := 2000) hx hb d_Ans_init_14 (by decide) ?_
  refine nw_int (N' := 2000) hx hb hT w_1_69 hK hP hD hS hA (by decide) (by decide) (by decide) (show _ ≤ 8 by omega) (show _ ≤ 19345 by omega) d_Ans_init_17 (fun q2 H hP hD hS => ?_)
  have hP : va_P (dC, dI) CL [(h0, .inr (10, [.int 0, .int 0, .int 0, .int 0, .ref q1, .null, .int 0, .int 0, .null, .null, .null, .null, .null, .null, .null, .null])), (q1, .inl (cZ, 128, .inl (fun _ => 0))), (q2, .inl (cI, 2000, .inl (fun _ => 0)))] H := hP
  have hD : va_D A [(h0, .inr (10, [.int 0, .int 0, .int 0, .int 0, .ref q1, .null, .int 0, .int 0, .null, .null, .null, .null, .null, .null, .null, .null])), (q1, .inl (cZ, 128, .inl (fun _ => 0))), (q2, .inl (cI, 2000, .inl (fun _ => 0)))] := hD
  refine W.widen (k := 2) (n := 2128) (by omega) (by omega) ?_
  refine f_putF (D := (dC, dI)) (ci := 10) (v := .ref q2) (ty := .array .int) (C := R_Ans) (T := F_Ans) (N := 16) hx hb hT in_Ans t_Ans t_Ans_ok n_Ans hown hK hP hD hS 0 rfl rfl 5 (by decide) fr_Ans_5 w_3_165 hin (by decide +kernel) rfl rfl (Nat.le_of_ble_eq_true rfl) d_Ans_init_19 (fun H locs hP hD hS => ?_)
  have hP : va_P (dC, dI) CL [(h0, .inr (10, [.int 0, .int 0, .int 0, .int 0, .ref q1, .ref q2, .int 0, .int 0, .null, .null, .null, .null, .null, .null, .null, .null])), (q1, .inl (cZ, 128, .inl (fun _ => 0))), (q2, .inl (cI, 2000, .inl (fun _ => 0)))] H := hP
  have hD : va_D A [(h0, .inr (10, [.int 0, .int 0, .int 0, .int 0, .ref q1, .ref q2, .int 0, .int 0, .null, .null, .null, .null, .null, .null, .null, .null])), (q1, .inl (cZ, 128, .inl (fun _ => 0))), (q2, .inl (cI, 2000, .inl (fun _ => 0)))] := hD
  refine lv_aload_n hx hb d_Ans_init_22 rfl (lv_at hl 0 rfl) ?_
  refine lv_sipush (v := 8000) hx hb d_Ans_init_23 (by decide) ?_
  refine nw_byte (N' := 8000) hx hb hT w_1_70 hK hP hD hS hA (by decide) (by decide) (by decide) (show _ ≤ 8 by omega) (show _ ≤ 19345 by omega) d_Ans_init_26 (fun q3 H hP hD hS => ?_)
  have hP : va_P (dC, dI) CL [(h0, .inr (10, [.int 0, .int 0, .int 0, .int 0, .ref q1, .ref q2, .int 0, .int 0, .null, .null, .null, .null, .null, .null, .null, .null])), (q1, .inl (cZ, 128, .inl (fun _ => 0))), (q2, .inl (cI, 2000, .inl (fun _ => 0))), (q3, .inl (cB, 8000, .inl (fun _ => 0)))] H := hP
  have hD : va_D A [(h0, .inr (10, [.int 0, .int 0, .int 0, .int 0, .ref q1, .ref q2, .int 0, .int 0, .null, .null, .null, .null, .null, .null, .null, .null])), (q1, .inl (cZ, 128, .inl (fun _ => 0))), (q2, .inl (cI, 2000, .inl (fun _ => 0))), (q3, .inl (cB, 8000, .inl (fun _ => 0)))] := hD
  refine W.widen (k := 3) (n := 10128) (by omega) (by omega) ?_
  refine f_putF (D := (dC, dI)) (ci := 10) (v := .ref q3) (ty := .array .byte) (C := R_Ans) (T := F_Ans) (N := 16) hx hb hT in_Ans t_Ans t_Ans_ok n_Ans hown hK hP hD hS 0 rfl rfl 8 (by decide) fr_Ans_8 w_3_168 hin (by decide +kernel) rfl rfl (Nat.le_of_ble_eq_true rfl) d_Ans_init_28 (fun H locs hP hD hS => ?_)
  have hP : va_P (dC, dI) CL [(h0, .inr (10, [.int 0, .int 0, .int 0, .int 0, .ref q1, .ref q2, .int 0, .int 0, .ref q3, .null, .null, .null, .null, .null, .null, .null])), (q1, .inl (cZ, 128, .inl (fun _ => 0))), (q2, .inl (cI, 2000, .inl (fun _ => 0))), (q3, .inl (cB, 8000, .inl (fun _ => 0)))] H := hP
  have hD : va_D A [(h0, .inr (10, [.int 0, .int 0, .int 0, .int 0, .ref q1, .ref q2, .int 0, .int 0, .ref q3, .null, .null, .null, .null, .null, .null, .null])), (q1, .inl (cZ, 128, .inl (fun _ => 0))), (q2, .inl (cI, 2000, .inl (fun _ => 0))), (q3, .inl (cB, 8000, .inl (fun _ => 0)))] := hD
  refine lv_aload_n hx hb d_Ans_init_31 rfl (lv_at hl 0 rfl) ?_
  refine lv_sipush (v := 8000) hx hb d_Ans_init_32 (by decide) ?_
  refine nw_long (N' := 8000) hx hb hT w_2_41 hK hP hD hS hA (by decide) (by decide) (by decide) (show _ ≤ 8 by omega) (show _ ≤ 19345 by omega) d_Ans_init_35 (fun q4 H hP hD hS => ?_)
  have hP : va_P (dC, dI) CL [(h0, .inr (10, [.int 0, .int 0, .int 0, .int 0, .ref q1, .ref q2, .int 0, .int 0, .ref q3, .null, .null, .null, .null, .null, .null, .null])), (q1, .inl (cZ, 128, .inl (fun _ => 0))), (q2, .inl (cI, 2000, .inl (fun _ => 0))), (q3, .inl (cB, 8000, .inl (fun _ => 0))), (q4, .inl (cJ, 8000, .inr (.inl (fun _ => 0))))] H := hP
  have hD : va_D A [(h0, .inr (10, [.int 0, .int 0, .int 0, .int 0, .ref q1, .ref q2, .int 0, .int 0, .ref q3, .null, .null, .null, .null, .null, .null, .null])), (q1, .inl (cZ, 128, .inl (fun _ => 0))), (q2, .inl (cI, 2000, .inl (fun _ => 0))), (q3, .inl (cB, 8000, .inl (fun _ => 0))), (q4, .inl (cJ, 8000, .inr (.inl (fun _ => 0))))] := hD
  refine W.widen (k := 4) (n := 18128) (by omega) (by omega) ?_
  refine f_putF (D := (dC, dI)) (ci := 10) (v := .ref q4) (ty := .array .long) (C := R_Ans) (T := F_Ans) (N := 16) hx hb hT in_Ans t_Ans t_Ans_ok n_Ans hown hK hP hD hS 0 rfl rfl 9 (by decide) fr_Ans_9 w_3_170 hin (by decide +kernel) rfl rfl (Nat.le_of_ble_eq_true rfl) d_Ans_init_37 (fun H locs hP hD hS => ?_)
  have hP : va_P (dC, dI) CL [(h0, .inr (10, [.int 0, .int 0, .int 0, .int 0, .ref q1, .ref q2, .int 0, .int 0, .ref q3, .ref q4, .null, .null, .null, .null, .null, .null])), (q1, .inl (cZ, 128, .inl (fun _ => 0))), (q2, .inl (cI, 2000, .inl (fun _ => 0))), (q3, .inl (cB, 8000, .inl (fun _ => 0))), (q4, .inl (cJ, 8000, .inr (.inl (fun _ => 0))))] H := hP
  have hD : va_D A [(h0, .inr (10, [.int 0, .int 0, .int 0, .int 0, .ref q1, .ref q2, .int 0, .int 0, .ref q3, .ref q4, .null, .null, .null, .null, .null, .null])), (q1, .inl (cZ, 128, .inl (fun _ => 0))), (q2, .inl (cI, 2000, .inl (fun _ => 0))), (q3, .inl (cB, 8000, .inl (fun _ => 0))), (q4, .inl (cJ, 8000, .inr (.inl (fun _ => 0))))] := hD
  refine lv_aload_n hx hb d_Ans_init_40 rfl (lv_at hl 0 rfl) ?_
  refine lv_sipush (v := 1024) hx hb d_Ans_init_41 (by decide) ?_
  refine nw_int (N' := 1024) hx hb hT w_1_69 hK hP hD hS hA (by decide) (by decide) (by decide) (show _ ≤ 8 by omega) (show _ ≤ 19345 by omega) d_Ans_init_44 (fun q5 H hP hD hS => ?_)
  have hP : va_P (dC, dI) CL [(h0, .inr (10, [.int 0, .int 0, .int 0, .int 0, .ref q1, .ref q2, .int 0, .int 0, .ref q3, .ref q4, .null, .null, .null, .null, .null, .null])), (q1, .inl (cZ, 128, .inl (fun _ => 0))), (q2, .inl (cI, 2000, .inl (fun _ => 0))), (q3, .inl (cB, 8000, .inl (fun _ => 0))), (q4, .inl (cJ, 8000, .inr (.inl (fun _ => 0)))), (q5, .inl (cI, 1024, .inl (fun _ => 0)))] H := hP
  have hD : va_D A [(h0, .inr (10, [.int 0, .int 0, .int 0, .int 0, .ref q1, .ref q2, .int 0, .int 0, .ref q3, .ref q4, .null, .null, .null, .null, .null, .null])), (q1, .inl (cZ, 128, .inl (fun _ => 0))), (q2, .inl (cI, 2000, .inl (fun _ => 0))), (q3, .inl (cB, 8000, .inl (fun _ => 0))), (q4, .inl (cJ, 8000, .inr (.inl (fun _ => 0)))), (q5, .inl (cI, 1024, .inl (fun _ => 0)))] := hD
  refine W.widen (k := 5) (n := 19152) (by omega) (by omega) ?_
  refine f_putF (D := (dC, dI)) (ci := 10) (v := .ref q5) (ty := .array .int) (C := R_Ans) (T := F_Ans) (N := 16) hx hb hT in_Ans t_Ans t_Ans_ok n_Ans hown hK hP hD hS 0 rfl rfl 10 (by decide) fr_Ans_10 w_3_172 hin (by decide +kernel) rfl rfl (Nat.le_of_ble_eq_true rfl) d_Ans_init_46 (fun H locs hP hD hS => ?_)
  have hP : va_P (dC, dI) CL [(h0, .inr (10, [.int 0, .int 0, .int 0, .int 0, .ref q1, .ref q2, .int 0, .int 0, .ref q3, .ref q4, .ref q5, .null, .null, .null, .null, .null])), (q1, .inl (cZ, 128, .inl (fun _ => 0))), (q2, .inl (cI, 2000, .inl (fun _ => 0))), (q3, .inl (cB, 8000, .inl (fun _ => 0))), (q4, .inl (cJ, 8000, .inr (.inl (fun _ => 0)))), (q5, .inl (cI, 1024, .inl (fun _ => 0)))] H := hP
  have hD : va_D A [(h0, .inr (10, [.int 0, .int 0, .int 0, .int 0, .ref q1, .ref q2, .int 0, .int 0, .ref q3, .ref q4, .ref q5, .null, .null, .null, .null, .null])), (q1, .inl (cZ, 128, .inl (fun _ => 0))), (q2, .inl (cI, 2000, .inl (fun _ => 0))), (q3, .inl (cB, 8000, .inl (fun _ => 0))), (q4, .inl (cJ, 8000, .inr (.inl (fun _ => 0)))), (q5, .inl (cI, 1024, .inl (fun _ => 0)))] := hD
  refine lv_aload_n hx hb d_Ans_init_49 rfl (lv_at hl 0 rfl) ?_
  refine lv_bipush (v := 65) hx hb d_Ans_init_50 (by decide) ?_
  refine nw_int (N' := 65) hx hb hT w_1_69 hK hP hD hS hA (by decide) (by decide) (by decide) (show _ ≤ 8 by omega) (show _ ≤ 19345 by omega) d_Ans_init_52 (fun q6 H hP hD hS => ?_)
  have hP : va_P (dC, dI) CL [(h0, .inr (10, [.int 0, .int 0, .int 0, .int 0, .ref q1, .ref q2, .int 0, .int 0, .ref q3, .ref q4, .ref q5, .null, .null, .null, .null, .null])), (q1, .inl (cZ, 128, .inl (fun _ => 0))), (q2, .inl (cI, 2000, .inl (fun _ => 0))), (q3, .inl (cB, 8000, .inl (fun _ => 0))), (q4, .inl (cJ, 8000, .inr (.inl (fun _ => 0)))), (q5, .inl (cI, 1024, .inl (fun _ => 0))), (q6, .inl (cI, 65, .inl (fun _ => 0)))] H := hP
  have hD : va_D A [(h0, .inr (10, [.int 0, .int 0, .int 0, .int 0, .ref q1, .ref q2, .int 0, .int 0, .ref q3, .ref q4, .ref q5, .null, .null, .null, .null, .null])), (q1, .inl (cZ, 128, .inl (fun _ => 0))), (q2, .inl (cI, 2000, .inl (fun _ => 0))), (q3, .inl (cB, 8000, .inl (fun _ => 0))), (q4, .inl (cJ, 8000, .inr (.inl (fun _ => 0)))), (q5, .inl (cI, 1024, .inl (fun _ => 0))), (q6, .inl (cI, 65, .inl (fun _ => 0)))] := hD
  refine W.widen (k := 6) (n := 19217) (by omega) (by omega) ?_
  refine f_putF (D := (dC, dI)) (ci := 10) (v := .ref q6) (ty := .array .int) (C := R_Ans) (T := F_Ans) (N := 16) hx hb hT in_Ans t_Ans t_Ans_ok n_Ans hown hK hP hD hS 0 rfl rfl 11 (by decide) fr_Ans_11 w_3_173 hin (by decide +kernel) rfl rfl (Nat.le_of_ble_eq_true rfl) d_Ans_init_54 (fun H locs hP hD hS => ?_)
  have hP : va_P (dC, dI) CL [(h0, .inr (10, [.int 0, .int 0, .int 0, .int 0, .ref q1, .ref q2, .int 0, .int 0, .ref q3, .ref q4, .ref q5, .ref q6, .null, .null, .null, .null])), (q1, .inl (cZ, 128, .inl (fun _ => 0))), (q2, .inl (cI, 2000, .inl (fun _ => 0))), (q3, .inl (cB, 8000, .inl (fun _ => 0))), (q4, .inl (cJ, 8000, .inr (.inl (fun _ => 0)))), (q5, .inl (cI, 1024, .inl (fun _ => 0))), (q6, .inl (cI, 65, .inl (fun _ => 0)))] H := hP
  have hD : va_D A [(h0, .inr (10, [.int 0, .int 0, .int 0, .int 0, .ref q1, .ref q2, .int 0, .int 0, .ref q3, .ref q4, .ref q5, .ref q6, .null, .null, .null, .null])), (q1, .inl (cZ, 128, .inl (fun _ => 0))), (q2, .inl (cI, 2000, .inl (fun _ => 0))), (q3, .inl (cB, 8000, .inl (fun _ => 0))), (q4, .inl (cJ, 8000, .inr (.inl (fun _ => 0)))), (q5, .inl (cI, 1024, .inl (fun _ => 0))), (q6, .inl (cI, 65, .inl (fun _ => 0)))] := hD
  refine lv_aload_n hx hb d_Ans_init_57 rfl (lv_at hl 0 rfl) ?_
  refine lv_bipush (v := 64) hx hb d_Ans_init_58 (by decide) ?_
  refine nw_int (N' := 64) hx hb hT w_1_69 hK hP hD hS hA (by decide) (by decide) (by decide) (show _ ≤ 8 by omega) (show _ ≤ 19345 by omega) d_Ans_init_60 (fun q7 H hP hD hS => ?_)
  have hP : va_P (dC, dI) CL [(h0, .inr (10, [.int 0, .int 0, .int 0, .int 0, .ref q1, .ref q2, .int 0, .int 0, .ref q3, .ref q4, .ref q5, .ref q6, .null, .null, .null, .null])), (q1, .inl (cZ, 128, .inl (fun _ => 0))), (q2, .inl (cI, 2000, .inl (fun _ => 0))), (q3, .inl (cB, 8000, .inl (fun _ => 0))), (q4, .inl (cJ, 8000, .inr (.inl (fun _ => 0)))), (q5, .inl (cI, 1024, .inl (fun _ => 0))), (q6, .inl (cI, 65, .inl (fun _ => 0))), (q7, .inl (cI, 64, .inl (fun _ => 0)))] H := hP
  have hD : va_D A [(h0, .inr (10, [.int 0, .int 0, .int 0, .int 0, .ref q1, .ref q2, .int 0, .int 0, .ref q3, .ref q4, .ref q5, .ref q6, .null, .null, .null, .null])), (q1, .inl (cZ, 128, .inl (fun _ => 0))), (q2, .inl (cI, 2000, .inl (fun _ => 0))), (q3, .inl (cB, 8000, .inl (fun _ => 0))), (q4, .inl (cJ, 8000, .inr (.inl (fun _ => 0)))), (q5, .inl (cI, 1024, .inl (fun _ => 0))), (q6, .inl (cI, 65, .inl (fun _ => 0))), (q7, .inl (cI, 64, .inl (fun _ => 0)))] := hD
  refine W.widen (k := 7) (n := 19281) (by omega) (by omega) ?_
  refine f_putF (D := (dC, dI)) (ci := 10) (v := .ref q7) (ty := .array .int) (C := R_Ans) (T := F_Ans) (N := 16) hx hb hT in_Ans t_Ans t_Ans_ok n_Ans hown hK hP hD hS 0 rfl rfl 12 (by decide) fr_Ans_12 w_3_174 hin (by decide +kernel) rfl rfl (Nat.le_of_ble_eq_true rfl) d_Ans_init_62 (fun H locs hP hD hS => ?_)
  have hP : va_P (dC, dI) CL [(h0, .inr (10, [.int 0, .int 0, .int 0, .int 0, .ref q1, .ref q2, .int 0, .int 0, .ref q3, .ref q4, .ref q5, .ref q6, .ref q7, .null, .null, .null])), (q1, .inl (cZ, 128, .inl (fun _ => 0))), (q2, .inl (cI, 2000, .inl (fun _ => 0))), (q3, .inl (cB, 8000, .inl (fun _ => 0))), (q4, .inl (cJ, 8000, .inr (.inl (fun _ => 0)))), (q5, .inl (cI, 1024, .inl (fun _ => 0))), (q6, .inl (cI, 65, .inl (fun _ => 0))), (q7, .inl (cI, 64, .inl (fun _ => 0)))] H := hP
  have hD : va_D A [(h0, .inr (10, [.int 0, .int 0, .int 0, .int 0, .ref q1, .ref q2, .int 0, .int 0, .ref q3, .ref q4, .ref q5, .ref q6, .ref q7, .null, .null, .null])), (q1, .inl (cZ, 128, .inl (fun _ => 0))), (q2, .inl (cI, 2000, .inl (fun _ => 0))), (q3, .inl (cB, 8000, .inl (fun _ => 0))), (q4, .inl (cJ, 8000, .inr (.inl (fun _ => 0)))), (q5, .inl (cI, 1024, .inl (fun _ => 0))), (q6, .inl (cI, 65, .inl (fun _ => 0))), (q7, .inl (cI, 64, .inl (fun _ => 0)))] := hD
  refine lv_aload_n hx hb d_Ans_init_65 rfl (lv_at hl 0 rfl) ?_
  refine lv_bipush (v := 64) hx hb d_Ans_init_66 (by decide) ?_
  refine nw_boolean (N' := 64) hx hb hT w_3_211 hK hP hD hS hA (by decide) (by decide) (by decide) (show _ ≤ 8 by omega) (show _ ≤ 19345 by omega) d_Ans_init_68 (fun q8 H hP hD hS => ?_)
  have hP : va_P (dC, dI) CL [(h0, .inr (10, [.int 0, .int 0, .int 0, .int 0, .ref q1, .ref q2, .int 0, .int 0, .ref q3, .ref q4, .ref q5, .ref q6, .ref q7, .null, .null, .null])), (q1, .inl (cZ, 128, .inl (fun _ => 0))), (q2, .inl (cI, 2000, .inl (fun _ => 0))), (q3, .inl (cB, 8000, .inl (fun _ => 0))), (q4, .inl (cJ, 8000, .inr (.inl (fun _ => 0)))), (q5, .inl (cI, 1024, .inl (fun _ => 0))), (q6, .inl (cI, 65, .inl (fun _ => 0))), (q7, .inl (cI, 64, .inl (fun _ => 0))), (q8, .inl (cZ, 64, .inl (fun _ => 0)))] H := hP
  have hD : va_D A [(h0, .inr (10, [.int 0, .int 0, .int 0, .int 0, .ref q1, .ref q2, .int 0, .int 0, .ref q3, .ref q4, .ref q5, .ref q6, .ref q7, .null, .null, .null])), (q1, .inl (cZ, 128, .inl (fun _ => 0))), (q2, .inl (cI, 2000, .inl (fun _ => 0))), (q3, .inl (cB, 8000, .inl (fun _ => 0))), (q4, .inl (cJ, 8000, .inr (.inl (fun _ => 0)))), (q5, .inl (cI, 1024, .inl (fun _ => 0))), (q6, .inl (cI, 65, .inl (fun _ => 0))), (q7, .inl (cI, 64, .inl (fun _ => 0))), (q8, .inl (cZ, 64, .inl (fun _ => 0)))] := hD
  refine W.widen (k := 8) (n := 19345) (by omega) (by omega) ?_
  refine f_putF (D := (dC, dI)) (ci := 10) (v := .ref q8) (ty := .array .boolean) (C := R_Ans) (T := F_Ans) (N := 16) hx hb hT in_Ans t_Ans t_Ans_ok n_Ans hown hK hP hD hS 0 rfl rfl 13 (by decide) fr_Ans_13 w_3_175 hin (by decide +kernel) rfl rfl (Nat.le_of_ble_eq_true rfl) d_Ans_init_70 (fun H locs hP hD hS => ?_)
  have hP : va_P (dC, dI) CL [(h0, .inr (10, [.int 0, .int 0, .int 0, .int 0, .ref q1, .ref q2, .int 0, .int 0, .ref q3, .ref q4, .ref q5, .ref q6, .ref q7, .ref q8, .null, .null])), (q1, .inl (cZ, 128, .inl (fun _ => 0))), (q2, .inl (cI, 2000, .inl (fun _ => 0))), (q3, .inl (cB, 8000, .inl (fun _ => 0))), (q4, .inl (cJ, 8000, .inr (.inl (fun _ => 0)))), (q5, .inl (cI, 1024, .inl (fun _ => 0))), (q6, .inl (cI, 65, .inl (fun _ => 0))), (q7, .inl (cI, 64, .inl (fun _ => 0))), (q8, .inl (cZ, 64, .inl (fun _ => 0)))] H := hP
  have hD : va_D A [(h0, .inr (10, [.int 0, .int 0, .int 0, .int 0, .ref q1, .ref q2, .int 0, .int 0, .ref q3, .ref q4, .ref q5, .ref q6, .ref q7, .ref q8, .null, .null])), (q1, .inl (cZ, 128, .inl (fun _ => 0))), (q2, .inl (cI, 2000, .inl (fun _ => 0))), (q3, .inl (cB, 8000, .inl (fun _ => 0))), (q4, .inl (cJ, 8000, .inr (.inl (fun _ => 0)))), (q5, .inl (cI, 1024, .inl (fun _ => 0))), (q6, .inl (cI, 65, .inl (fun _ => 0))), (q7, .inl (cI, 64, .inl (fun _ => 0))), (q8, .inl (cZ, 64, .inl (fun _ => 0)))] := hD
  refine W.widen (k := 8) (n := 19345) (by omega) (by omega) ?_
  exact W.vret hx hb hr (fun t ht hW => ⟨⟨(), rfl, trivial, ⟨q1, q2, q3, q4, q5, q6, q7, q8, by rw [ht]; exact hP, hD⟩⟩, hS.F ht⟩) hS.2.2 d_Ans_init_73
set_option maxHeartbeats 4000000 in
set_option maxRecDepth 100000 in
/-- Src_init -/
theorem c_Src_init (h0 sz : Nat) (b0 : Nat) : Met l y_Src_init (wsOf y_Src_init b_Src_init 2 none) ({ frames := 1, cells := 1, slots := 4, locals := 14 }) (va_Pc [.ref h0, .ref b0] (PC dC dI cI cB cJ cZ sz [(h0, .inr (8, [.null, .int 0, .int 0, .int 0, .null]))])) (va_Qv (fun _ : Unit => True) (fun _ t => ∃ q1 : Nat, va_P (dC, dI) CL [(h0, .inr (8, [.ref b0, .int 0, .int 0, .int 0, .ref q1])), (q1, .inl (cI, 4, .inl (fun _ => 0)))] t.heap ∧ va_D (va_A [(h0, .inr (8, [.null, .int 0, .int 0, .int 0, .null]))] sz) [(h0, .inr (8, [.ref b0, .int 0, .int 0, .int 0, .ref q1])), (q1, .inl (cI, 4, .inl (fun _ => 0)))]) (va_A [(h0, .inr (8, [.null, .int 0, .int 0, .int 0, .null]))] sz)) 1 4 (va_A [(h0, .inr (8, [.null, .int 0, .int 0, .int 0, .null]))] sz) := by
  refine Met.ofW (cc := b_Src_init) (maxL := 2) (ret := none) (by decide) rfl ?_
  intro p e s m args below meth c s₁ B hml hv
  obtain ⟨rfl, hsz, hP, hK, hD0, hN⟩ := hv
  have hx := B.exec
  have hb := B.bytes
  have hr := B.returns
  have hts := atoms_spec B.pre
  have hT : ∀ w ∈ TG, w.before _ s = true := fun w h => hts w (List.mem_cons_of_mem _ h)
  have hown : s.vm.findClass R_Src = some m.cls := findClass_of_methodNamed B.named
  have hlocks := B.notSynchronized
  have hin : meth.name = "<init>" := (name_of_methodNamed B.named B.method).1
  subst hsz
  have hD := hD0.self (sz := s.heap.size)
  generalize hAe : va_A [(h0, .inr (8, [.null, .int 0, .int 0, .int 0, .null]))] s.heap.size = A at hD ⊢
  have hA : ∀ q : Nat, s.heap.size ≤ q → A q := fun q h => by rw [← hAe]; exact Or.inr h
  have hS : va_S A s.heap s.heap [] := va_S.rf
  have hl := lv_entry ([.ref h0, .ref b0]) (n := 2) (Nat.le_of_ble_eq_true rfl)
  rw [lg_entry_eq]
  generalize (lg_sl ([.ref h0, .ref b0]) ++ List.replicate (2 - (lg_sl ([.ref h0, .ref b0])).length) Slot.unset).toArray = ls at hl ⊢
  have hl : lv_has ls 2 [(0, .ref h0), (1, .ref b0)] := hl
  refine lv_aload_n hx hb d_Src_init_0 rfl (lv_at hl 0 rfl) ?_
  refine W.objInit hx hb hown (hT _ w_2_235) (hT _ w_1_28) (hT _ w_obj) rfl (by rw [hml]; exact hl.1) rfl d_Src_init_1 (Nat.le_of_ble_eq_true rfl) (Nat.le_of_ble_eq_true rfl) ?_
  refine W.eq (g2 := F0 m 4 ls []) rfl ?_
  refine lv_aload_n hx hb d_Src_init_4 rfl (lv_at hl 0 rfl) ?_
  refine lv_iconst (v := 4) hx hb d_Src_init_5 (by decide) ?_
  refine nw_int (N' := 4) hx hb hT w_1_69 hK hP hD hS hA (by decide) (by decide) (by decide) (show _ ≤ 1 by omega) (show _ ≤ 4 by omega) d_Src_init_6 (fun q1 H hP hD hS => ?_)
  have hP : va_P (dC, dI) CL [(h0, .inr (8, [.null, .int 0, .int 0, .int 0, .null])), (q1, .inl (cI, 4, .inl (fun _ => 0)))] H := hP
  have hD : va_D A [(h0, .inr (8, [.null, .int 0, .int 0, .int 0, .null])), (q1, .inl (cI, 4, .inl (fun _ => 0)))] := hD
  refine W.widen (k := 1) (n := 4) (by omega) (by omega) ?_
  refine f_putF (D := (dC, dI)) (ci := 8) (v := .ref q1) (ty := .array .int) (C := R_Src) (T := F_Src) (N := 5) hx hb hT in_Src t_Src t_Src_ok n_Src hown hK hP hD hS 0 rfl rfl 4 (by decide) fr_Src_4 w_3_3 hin (by decide +kernel) rfl rfl (Nat.le_of_ble_eq_true rfl) d_Src_init_8 (fun H locs hP hD hS => ?_)
  have hP : va_P (dC, dI) CL [(h0, .inr (8, [.null, .int 0, .int 0, .int 0, .ref q1])), (q1, .inl (cI, 4, .inl (fun _ => 0)))] H := hP
  have hD : va_D A [(h0, .inr (8, [.null, .int 0, .int 0, .int 0, .ref q1])), (q1, .inl (cI, 4, .inl (fun _ => 0)))] := hD
  refine lv_aload_n hx hb d_Src_init_11 rfl (lv_at hl 0 rfl) ?_
  refine lv_aload_n hx hb d_Src_init_12 rfl (lv_at hl 1 rfl) ?_
  refine f_putF (D := (dC, dI)) (ci := 8) (v := .ref b0) (ty := .array .byte) (C := R_Src) (T := F_Src) (N := 5) hx hb hT in_Src t_Src t_Src_ok n_Src hown hK hP hD hS 0 rfl rfl 0 (by decide) fr_Src_0 w_2_236 hin (by decide +kernel) rfl rfl (Nat.le_of_ble_eq_true rfl) d_Src_init_13 (fun H locs hP hD hS => ?_)
  have hP : va_P (dC, dI) CL [(h0, .inr (8, [.ref b0, .int 0, .int 0, .int 0, .ref q1])), (q1, .inl (cI, 4, .inl (fun _ => 0)))] H := hP
  have hD : va_D A [(h0, .inr (8, [.ref b0, .int 0, .int 0, .int 0, .ref q1])), (q1, .inl (cI, 4, .inl (fun _ => 0)))] := hD
  refine W.widen (k := 1) (n := 4) (by omega) (by omega) ?_
  exact W.vret hx hb hr (fun t ht hW => ⟨⟨(), rfl, trivial, ⟨q1, by rw [ht]; exact hP, hD⟩⟩, hS.F ht⟩) hS.2.2 d_Src_init_16
end
