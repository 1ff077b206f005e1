theorem w_10_202 : (Jvm.Cond.methodLink "StripedVaultLaw" (17 : Nat) ({ cls := "StripedVaultModel", name := "feed", desc := "(IIIII)Z" } : Jvm.MethodName)) ∈ TG := tw_10 202 (by decide +kernel) (by decide +kernel)
theorem w_10_203 : (Jvm.Cond.instanceMethod ({ cls := "StripedVaultModel", name := "feed", desc := "(IIIII)Z" } : Jvm.MethodName)) ∈ TG := tw_10 203 (by decide +kernel) (by decide +kernel)
theorem w_10_204 : (Jvm.Cond.selects "StripedVaultModel" ({ cls := "StripedVaultModel", name := "feed", desc := "(IIIII)Z" } : Jvm.MethodName) ({ cls := "StripedVaultModel", name := "feed", desc := "(IIIII)Z" } : Jvm.MethodName)) ∈ TG := tw_10 204 (by decide +kernel) (by decide +kernel)
theorem w_10_205 : (Jvm.Cond.code ({ cls := "StripedVaultModel", name := "feed", desc := "(IIIII)Z" } : Jvm.MethodName) prog_14_method_3_code (8 : Nat) (Option.some Jvm.ClassFile.FieldType.boolean)) ∈ TG := tw_10 205 (by decide +kernel) (by decide +kernel)
theorem w_10_206 : (Jvm.Cond.methodLink "StripedVaultLaw" (22 : Nat) ({ cls := "StripedVaultModel", name := "end", desc := "(I)Z" } : Jvm.MethodName)) ∈ TG := tw_10 206 (by decide +kernel) (by decide +kernel)
theorem w_10_207 : (Jvm.Cond.instanceMethod ({ cls := "StripedVaultModel", name := "end", desc := "(I)Z" } : Jvm.MethodName)) ∈ TG := tw_10 207 (by decide +kernel) (by decide +kernel)
theorem w_10_208 : (Jvm.Cond.selects "StripedVaultModel" ({ cls := "StripedVaultModel", name := "end", desc := "(I)Z" } : Jvm.MethodName) ({ cls := "StripedVaultModel", name := "end", desc := "(I)Z" } : Jvm.MethodName)) ∈ TG := tw_10 208 (by decide +kernel) (by decide +kernel)
theorem w_10_209 : (Jvm.Cond.code ({ cls := "StripedVaultModel", name := "end", desc := "(I)Z" } : Jvm.MethodName) prog_14_method_4_code (3 : Nat) (Option.some Jvm.ClassFile.FieldType.boolean)) ∈ TG := tw_10 209 (by decide +kernel) (by decide +kernel)
theorem w_10_210 : (Jvm.Cond.methodLink "StripedVaultLaw" (27 : Nat) ({ cls := "StripedVaultModel", name := "schema", desc := "()I" } : Jvm.MethodName)) ∈ TG := tw_10 210 (by decide +kernel) (by decide +kernel)
theorem w_10_211 : (Jvm.Cond.instanceMethod ({ cls := "StripedVaultModel", name := "schema", desc := "()I" } : Jvm.MethodName)) ∈ TG := tw_10 211 (by decide +kernel) (by decide +kernel)
theorem w_10_212 : (Jvm.Cond.selects "StripedVaultModel" ({ cls := "StripedVaultModel", name := "schema", desc := "()I" } : Jvm.MethodName) ({ cls := "StripedVaultModel", name := "schema", desc := "()I" } : Jvm.MethodName)) ∈ TG := tw_10 212 (by decide +kernel) (by decide +kernel)
theorem w_10_213 : (Jvm.Cond.code ({ cls := "StripedVaultModel", name := "schema", desc := "()I" } : Jvm.MethodName) prog_14_method_28_code (1 : Nat) (Option.some Jvm.ClassFile.FieldType.int)) ∈ TG := tw_10 213 (by decide +kernel) (by decide +kernel)
theorem w_11_123 : (Jvm.Cond.methodLink "StripedVaultLaw" (35 : Nat) ({ cls := "StripedVaultModel", name := "records", desc := "()I" } : Jvm.MethodName)) ∈ TG := tw_11 123 (by decide +kernel) (by decide +kernel)
theorem w_11_124 : (Jvm.Cond.instanceMethod ({ cls := "StripedVaultModel", name := "records", desc := "()I" } : Jvm.MethodName)) ∈ TG := tw_11 124 (by decide +kernel) (by decide +kernel)
theorem w_11_125 : (Jvm.Cond.selects "StripedVaultModel" ({ cls := "StripedVaultModel", name := "records", desc := "()I" } : Jvm.MethodName) ({ cls := "StripedVaultModel", name := "records", desc := "()I" } : Jvm.MethodName)) ∈ TG := tw_11 125 (by decide +kernel) (by decide +kernel)
theorem w_11_126 : (Jvm.Cond.code ({ cls := "StripedVaultModel", name := "records", desc := "()I" } : Jvm.MethodName) prog_14_method_44_code (1 : Nat) (Option.some Jvm.ClassFile.FieldType.int)) ∈ TG := tw_11 126 (by decide +kernel) (by decide +kernel)
theorem w_11_127 : (Jvm.Cond.methodLink "StripedVaultLaw" (39 : Nat) ({ cls := "StripedVaultModel", name := "clear", desc := "()V" } : Jvm.MethodName)) ∈ TG := tw_11 127 (by decide +kernel) (by decide +kernel)
theorem w_11_128 : (Jvm.Cond.instanceMethod ({ cls := "StripedVaultModel", name := "clear", desc := "()V" } : Jvm.MethodName)) ∈ TG := tw_11 128 (by decide +kernel) (by decide +kernel)
theorem w_11_129 : (Jvm.Cond.selects "StripedVaultModel" ({ cls := "StripedVaultModel", name := "clear", desc := "()V" } : Jvm.MethodName) ({ cls := "StripedVaultModel", name := "clear", desc := "()V" } : Jvm.MethodName)) ∈ TG := tw_11 129 (by decide +kernel) (by decide +kernel)
theorem w_11_130 : (Jvm.Cond.code ({ cls := "StripedVaultModel", name := "clear", desc := "()V" } : Jvm.MethodName) prog_14_method_45_code (1 : Nat) (Option.none : Option Jvm.ClassFile.FieldType)) ∈ TG := tw_11 130 (by decide +kernel) (by decide +kernel)
theorem w_11_131 : (Jvm.Cond.methodLink "StripedVaultLaw" (44 : Nat) ({ cls := "StripedVaultModel", name := "write", desc := "(II)I" } : Jvm.MethodName)) ∈ TG := tw_11 131 (by decide +kernel) (by decide +kernel)
theorem w_11_132 : (Jvm.Cond.instanceMethod ({ cls := "StripedVaultModel", name := "write", desc := "(II)I" } : Jvm.MethodName)) ∈ TG := tw_11 132 (by decide +kernel) (by decide +kernel)
theorem w_11_133 : (Jvm.Cond.selects "StripedVaultModel" ({ cls := "StripedVaultModel", name := "write", desc := "(II)I" } : Jvm.MethodName) ({ cls := "StripedVaultModel", name := "write", desc := "(II)I" } : Jvm.MethodName)) ∈ TG := tw_11 133 (by decide +kernel) (by decide +kernel)
theorem w_11_134 : (Jvm.Cond.code ({ cls := "StripedVaultModel", name := "write", desc := "(II)I" } : Jvm.MethodName) prog_14_method_116_code (7 : Nat) (Option.some Jvm.ClassFile.FieldType.int)) ∈ TG := tw_11 134 (by decide +kernel) (by decide +kernel)
theorem w_11_59 : (Jvm.Cond.methodLink "StripedVaultLaw" (31 : Nat) ({ cls := "StripedVaultModel", name := "record", desc := "()I" } : Jvm.MethodName)) ∈ TG := tw_11 59 (by decide +kernel) (by decide +kernel)
theorem w_11_60 : (Jvm.Cond.instanceMethod ({ cls := "StripedVaultModel", name := "record", desc := "()I" } : Jvm.MethodName)) ∈ TG := tw_11 60 (by decide +kernel) (by decide +kernel)
theorem w_11_61 : (Jvm.Cond.selects "StripedVaultModel" ({ cls := "StripedVaultModel", name := "record", desc := "()I" } : Jvm.MethodName) ({ cls := "StripedVaultModel", name := "record", desc := "()I" } : Jvm.MethodName)) ∈ TG := tw_11 61 (by decide +kernel) (by decide +kernel)
theorem w_11_62 : (Jvm.Cond.code ({ cls := "StripedVaultModel", name := "record", desc := "()I" } : Jvm.MethodName) prog_14_method_43_code (4 : Nat) (Option.some Jvm.ClassFile.FieldType.int)) ∈ TG := tw_11 62 (by decide +kernel) (by decide +kernel)
theorem w_12_80 : (Jvm.Cond.methodLink "StripedVaultLaw" (48 : Nat) ({ cls := "StripedVaultModel", name := "take", desc := "()V" } : Jvm.MethodName)) ∈ TG := tw_12 80 (by decide +kernel) (by decide +kernel)
theorem w_12_81 : (Jvm.Cond.instanceMethod ({ cls := "StripedVaultModel", name := "take", desc := "()V" } : Jvm.MethodName)) ∈ TG := tw_12 81 (by decide +kernel) (by decide +kernel)
theorem w_12_82 : (Jvm.Cond.selects "StripedVaultModel" ({ cls := "StripedVaultModel", name := "take", desc := "()V" } : Jvm.MethodName) ({ cls := "StripedVaultModel", name := "take", desc := "()V" } : Jvm.MethodName)) ∈ TG := tw_12 82 (by decide +kernel) (by decide +kernel)
theorem w_12_83 : (Jvm.Cond.code ({ cls := "StripedVaultModel", name := "take", desc := "()V" } : Jvm.MethodName) prog_14_method_117_code (2 : Nat) (Option.none : Option Jvm.ClassFile.FieldType)) ∈ TG := tw_12 83 (by decide +kernel) (by decide +kernel)
theorem w_12_84 : (Jvm.Cond.methodLink "StripedVaultLaw" (52 : Nat) ({ cls := "StripedVaultModel", name := "size", desc := "()I" } : Jvm.MethodName)) ∈ TG := tw_12 84 (by decide +kernel) (by decide +kernel)
theorem w_12_85 : (Jvm.Cond.instanceMethod ({ cls := "StripedVaultModel", name := "size", desc := "()I" } : Jvm.MethodName)) ∈ TG := tw_12 85 (by decide +kernel) (by decide +kernel)
theorem w_12_86 : (Jvm.Cond.selects "StripedVaultModel" ({ cls := "StripedVaultModel", name := "size", desc := "()I" } : Jvm.MethodName) ({ cls := "StripedVaultModel", name := "size", desc := "()I" } : Jvm.MethodName)) ∈ TG := tw_12 86 (by decide +kernel) (by decide +kernel)
theorem w_12_87 : (Jvm.Cond.code ({ cls := "StripedVaultModel", name := "size", desc := "()I" } : Jvm.MethodName) prog_14_method_118_code (1 : Nat) (Option.some Jvm.ClassFile.FieldType.int)) ∈ TG := tw_12 87 (by decide +kernel) (by decide +kernel)
theorem w_12_88 : (Jvm.Cond.methodLink "StripedVaultLaw" (57 : Nat) ({ cls := "StripedVaultModel", name := "byteOf", desc := "(I)I" } : Jvm.MethodName)) ∈ TG := tw_12 88 (by decide +kernel) (by decide +kernel)
theorem w_12_89 : (Jvm.Cond.instanceMethod ({ cls := "StripedVaultModel", name := "byteOf", desc := "(I)I" } : Jvm.MethodName)) ∈ TG := tw_12 89 (by decide +kernel) (by decide +kernel)
theorem w_12_90 : (Jvm.Cond.selects "StripedVaultModel" ({ cls := "StripedVaultModel", name := "byteOf", desc := "(I)I" } : Jvm.MethodName) ({ cls := "StripedVaultModel", name := "byteOf", desc := "(I)I" } : Jvm.MethodName)) ∈ TG := tw_12 90 (by decide +kernel) (by decide +kernel)
theorem w_12_91 : (Jvm.Cond.code ({ cls := "StripedVaultModel", name := "byteOf", desc := "(I)I" } : Jvm.MethodName) prog_14_method_119_code (2 : Nat) (Option.some Jvm.ClassFile.FieldType.int)) ∈ TG := tw_12 91 (by decide +kernel) (by decide +kernel)
theorem w_12_92 : (Jvm.Cond.methodLink "StripedVaultLaw" (62 : Nat) ({ cls := "StripedVaultModel", name := "poke", desc := "(II)Z" } : Jvm.MethodName)) ∈ TG := tw_12 92 (by decide +kernel) (by decide +kernel)
theorem w_12_93 : (Jvm.Cond.instanceMethod ({ cls := "StripedVaultModel", name := "poke", desc := "(II)Z" } : Jvm.MethodName)) ∈ TG := tw_12 93 (by decide +kernel) (by decide +kernel)
theorem w_12_94 : (Jvm.Cond.selects "StripedVaultModel" ({ cls := "StripedVaultModel", name := "poke", desc := "(II)Z" } : Jvm.MethodName) ({ cls := "StripedVaultModel", name := "poke", desc := "(II)Z" } : Jvm.MethodName)) ∈ TG := tw_12 94 (by decide +kernel) (by decide +kernel)
theorem w_12_95 : (Jvm.Cond.code ({ cls := "StripedVaultModel", name := "poke", desc := "(II)Z" } : Jvm.MethodName) prog_14_method_120_code (3 : Nat) (Option.some Jvm.ClassFile.FieldType.boolean)) ∈ TG := tw_12 95 (by decide +kernel) (by decide +kernel)
theorem w_12_96 : (Jvm.Cond.methodLink "StripedVaultLaw" (66 : Nat) ({ cls := "StripedVaultModel", name := "open", desc := "()I" } : Jvm.MethodName)) ∈ TG := tw_12 96 (by decide +kernel) (by decide +kernel)
theorem w_12_97 : (Jvm.Cond.instanceMethod ({ cls := "StripedVaultModel", name := "open", desc := "()I" } : Jvm.MethodName)) ∈ TG := tw_12 97 (by decide +kernel) (by decide +kernel)
theorem w_12_98 : (Jvm.Cond.selects "StripedVaultModel" ({ cls := "StripedVaultModel", name := "open", desc := "()I" } : Jvm.MethodName) ({ cls := "StripedVaultModel", name := "open", desc := "()I" } : Jvm.MethodName)) ∈ TG := tw_12 98 (by decide +kernel) (by decide +kernel)
theorem w_12_99 : (Jvm.Cond.code ({ cls := "StripedVaultModel", name := "open", desc := "()I" } : Jvm.MethodName) prog_14_method_137_code (4 : Nat) (Option.some Jvm.ClassFile.FieldType.int)) ∈ TG := tw_12 99 (by decide +kernel) (by decide +kernel)
theorem w_13_113 : (Jvm.Cond.methodLink "StripedVaultLaw" (116 : Nat) ({ cls := "StripedVaultModel", name := "output", desc := "(I)I" } : Jvm.MethodName)) ∈ TG := tw_13 113 (by decide +kernel) (by decide +kernel)
theorem w_13_114 : (Jvm.Cond.instanceMethod ({ cls := "StripedVaultModel", name := "output", desc := "(I)I" } : Jvm.MethodName)) ∈ TG := tw_13 114 (by decide +kernel) (by decide +kernel)
theorem w_13_115 : (Jvm.Cond.selects "StripedVaultModel" ({ cls := "StripedVaultModel", name := "output", desc := "(I)I" } : Jvm.MethodName) ({ cls := "StripedVaultModel", name := "output", desc := "(I)I" } : Jvm.MethodName)) ∈ TG := tw_13 115 (by decide +kernel) (by decide +kernel)
theorem w_13_116 : (Jvm.Cond.code ({ cls := "StripedVaultModel", name := "output", desc := "(I)I" } : Jvm.MethodName) prog_14_method_156_code (2 : Nat) (Option.some Jvm.ClassFile.FieldType.int)) ∈ TG := tw_13 116 (by decide +kernel) (by decide +kernel)
theorem w_13_117 : (Jvm.Cond.methodLink "StripedVaultLaw" (82 : Nat) ({ cls := "StripedVaultModel", name := "query", desc := "()I" } : Jvm.MethodName)) ∈ TG := tw_13 117 (by decide +kernel) (by decide +kernel)
theorem w_13_118 : (Jvm.Cond.instanceMethod ({ cls := "StripedVaultModel", name := "query", desc := "()I" } : Jvm.MethodName)) ∈ TG := tw_13 118 (by decide +kernel) (by decide +kernel)
theorem w_13_119 : (Jvm.Cond.selects "StripedVaultModel" ({ cls := "StripedVaultModel", name := "query", desc := "()I" } : Jvm.MethodName) ({ cls := "StripedVaultModel", name := "query", desc := "()I" } : Jvm.MethodName)) ∈ TG := tw_13 119 (by decide +kernel) (by decide +kernel)
theorem w_13_120 : (Jvm.Cond.code ({ cls := "StripedVaultModel", name := "query", desc := "()I" } : Jvm.MethodName) prog_14_method_174_code (3 : Nat) (Option.some Jvm.ClassFile.FieldType.int)) ∈ TG := tw_13 120 (by decide +kernel) (by decide +kernel)
theorem w_13_200 : (Jvm.Cond.methodLink "StripedVaultLaw" (86 : Nat) ({ cls := "StripedVaultModel", name := "run", desc := "()I" } : Jvm.MethodName)) ∈ TG := tw_13 200 (by decide +kernel) (by decide +kernel)
theorem w_13_201 : (Jvm.Cond.instanceMethod ({ cls := "StripedVaultModel", name := "run", desc := "()I" } : Jvm.MethodName)) ∈ TG := tw_13 201 (by decide +kernel) (by decide +kernel)
theorem w_13_202 : (Jvm.Cond.selects "StripedVaultModel" ({ cls := "StripedVaultModel", name := "run", desc := "()I" } : Jvm.MethodName) ({ cls := "StripedVaultModel", name := "run", desc := "()I" } : Jvm.MethodName)) ∈ TG := tw_13 202 (by decide +kernel) (by decide +kernel)
theorem w_13_203 : (Jvm.Cond.code ({ cls := "StripedVaultModel", name := "run", desc := "()I" } : Jvm.MethodName) prog_14_method_198_code (3 : Nat) (Option.some Jvm.ClassFile.FieldType.int)) ∈ TG := tw_13 203 (by decide +kernel) (by decide +kernel)
theorem w_13_39 : (Jvm.Cond.methodLink "StripedVaultLaw" (70 : Nat) ({ cls := "StripedVaultModel", name := "fault", desc := "(I)I" } : Jvm.MethodName)) ∈ TG := tw_13 39 (by decide +kernel) (by decide +kernel)
theorem w_13_40 : (Jvm.Cond.instanceMethod ({ cls := "StripedVaultModel", name := "fault", desc := "(I)I" } : Jvm.MethodName)) ∈ TG := tw_13 40 (by decide +kernel) (by decide +kernel)
theorem w_13_41 : (Jvm.Cond.selects "StripedVaultModel" ({ cls := "StripedVaultModel", name := "fault", desc := "(I)I" } : Jvm.MethodName) ({ cls := "StripedVaultModel", name := "fault", desc := "(I)I" } : Jvm.MethodName)) ∈ TG := tw_13 41 (by decide +kernel) (by decide +kernel)
theorem w_13_42 : (Jvm.Cond.code ({ cls := "StripedVaultModel", name := "fault", desc := "(I)I" } : Jvm.MethodName) prog_14_method_138_code (2 : Nat) (Option.some Jvm.ClassFile.FieldType.int)) ∈ TG := tw_13 42 (by decide +kernel) (by decide +kernel)
theorem w_13_43 : (Jvm.Cond.methodLink "StripedVaultLaw" (74 : Nat) ({ cls := "StripedVaultModel", name := "opened", desc := "(I)I" } : Jvm.MethodName)) ∈ TG := tw_13 43 (by decide +kernel) (by decide +kernel)
theorem w_13_44 : (Jvm.Cond.instanceMethod ({ cls := "StripedVaultModel", name := "opened", desc := "(I)I" } : Jvm.MethodName)) ∈ TG := tw_13 44 (by decide +kernel) (by decide +kernel)
theorem w_13_45 : (Jvm.Cond.selects "StripedVaultModel" ({ cls := "StripedVaultModel", name := "opened", desc := "(I)I" } : Jvm.MethodName) ({ cls := "StripedVaultModel", name := "opened", desc := "(I)I" } : Jvm.MethodName)) ∈ TG := tw_13 45 (by decide +kernel) (by decide +kernel)
theorem w_13_46 : (Jvm.Cond.code ({ cls := "StripedVaultModel", name := "opened", desc := "(I)I" } : Jvm.MethodName) prog_14_method_139_code (2 : Nat) (Option.some Jvm.ClassFile.FieldType.int)) ∈ TG := tw_13 46 (by decide +kernel) (by decide +kernel)
theorem w_13_47 : (Jvm.Cond.methodLink "StripedVaultLaw" (78 : Nat) ({ cls := "StripedVaultModel", name := "show", desc := "(I)I" } : Jvm.MethodName)) ∈ TG := tw_13 47 (by decide +kernel) (by decide +kernel)
theorem w_13_48 : (Jvm.Cond.instanceMethod ({ cls := "StripedVaultModel", name := "show", desc := "(I)I" } : Jvm.MethodName)) ∈ TG := tw_13 48 (by decide +kernel) (by decide +kernel)
theorem w_13_49 : (Jvm.Cond.selects "StripedVaultModel" ({ cls := "StripedVaultModel", name := "show", desc := "(I)I" } : Jvm.MethodName) ({ cls := "StripedVaultModel", name := "show", desc := "(I)I" } : Jvm.MethodName)) ∈ TG := tw_13 49 (by decide +kernel) (by decide +kernel)
theorem w_13_50 : (Jvm.Cond.code ({ cls := "StripedVaultModel", name := "show", desc := "(I)I" } : Jvm.MethodName) prog_14_method_155_code (3 : Nat) (Option.some Jvm.ClassFile.FieldType.int)) ∈ TG := tw_13 50 (by decide +kernel) (by decide +kernel)
theorem w_14_52 : (Jvm.Cond.methodLink "StripedVaultLaw" (90 : Nat) ({ cls := "StripedVaultModel", name := "row", desc := "(I)I" } : Jvm.MethodName)) ∈ TG := tw_14 52 (by decide +kernel) (by decide +kernel)
theorem w_14_53 : (Jvm.Cond.instanceMethod ({ cls := "StripedVaultModel", name := "row", desc := "(I)I" } : Jvm.MethodName)) ∈ TG := tw_14 53 (by decide +kernel) (by decide +kernel)
theorem w_14_54 : (Jvm.Cond.selects "StripedVaultModel" ({ cls := "StripedVaultModel", name := "row", desc := "(I)I" } : Jvm.MethodName) ({ cls := "StripedVaultModel", name := "row", desc := "(I)I" } : Jvm.MethodName)) ∈ TG := tw_14 54 (by decide +kernel) (by decide +kernel)
theorem w_14_55 : (Jvm.Cond.code ({ cls := "StripedVaultModel", name := "row", desc := "(I)I" } : Jvm.MethodName) prog_14_method_200_code (2 : Nat) (Option.some Jvm.ClassFile.FieldType.int)) ∈ TG := tw_14 55 (by decide +kernel) (by decide +kernel)
theorem w_14_60 : (Jvm.Cond.methodLink "StripedVaultLaw" (94 : Nat) ({ cls := "StripedVaultModel", name := "answer", desc := "(I)I" } : Jvm.MethodName)) ∈ TG := tw_14 60 (by decide +kernel) (by decide +kernel)
theorem w_14_61 : (Jvm.Cond.instanceMethod ({ cls := "StripedVaultModel", name := "answer", desc := "(I)I" } : Jvm.MethodName)) ∈ TG := tw_14 61 (by decide +kernel) (by decide +kernel)
theorem w_14_62 : (Jvm.Cond.selects "StripedVaultModel" ({ cls := "StripedVaultModel", name := "answer", desc := "(I)I" } : Jvm.MethodName) ({ cls := "StripedVaultModel", name := "answer", desc := "(I)I" } : Jvm.MethodName)) ∈ TG := tw_14 62 (by decide +kernel) (by decide +kernel)
theorem w_14_63 : (Jvm.Cond.code ({ cls := "StripedVaultModel", name := "answer", desc := "(I)I" } : Jvm.MethodName) prog_14_method_201_code (4 : Nat) (Option.some Jvm.ClassFile.FieldType.int)) ∈ TG := tw_14 63 (by decide +kernel) (by decide +kernel)
theorem w_14_64 : (Jvm.Cond.methodLink "StripedVaultLaw" (98 : Nat) ({ cls := "StripedVaultModel", name := "kind", desc := "(II)I" } : Jvm.MethodName)) ∈ TG := tw_14 64 (by decide +kernel) (by decide +kernel)
theorem w_14_65 : (Jvm.Cond.instanceMethod ({ cls := "StripedVaultModel", name := "kind", desc := "(II)I" } : Jvm.MethodName)) ∈ TG := tw_14 65 (by decide +kernel) (by decide +kernel)
theorem w_14_66 : (Jvm.Cond.selects "StripedVaultModel" ({ cls := "StripedVaultModel", name := "kind", desc := "(II)I" } : Jvm.MethodName) ({ cls := "StripedVaultModel", name := "kind", desc := "(II)I" } : Jvm.MethodName)) ∈ TG := tw_14 66 (by decide +kernel) (by decide +kernel)
theorem w_14_67 : (Jvm.Cond.code ({ cls := "StripedVaultModel", name := "kind", desc := "(II)I" } : Jvm.MethodName) prog_14_method_205_code (3 : Nat) (Option.some Jvm.ClassFile.FieldType.int)) ∈ TG := tw_14 67 (by decide +kernel) (by decide +kernel)
theorem w_14_80 : (Jvm.Cond.methodLink "StripedVaultLaw" (103 : Nat) ({ cls := "StripedVaultModel", name := "value", desc := "(II)J" } : Jvm.MethodName)) ∈ TG := tw_14 80 (by decide +kernel) (by decide +kernel)
theorem w_14_81 : (Jvm.Cond.instanceMethod ({ cls := "StripedVaultModel", name := "value", desc := "(II)J" } : Jvm.MethodName)) ∈ TG := tw_14 81 (by decide +kernel) (by decide +kernel)
theorem w_14_82 : (Jvm.Cond.selects "StripedVaultModel" ({ cls := "StripedVaultModel", name := "value", desc := "(II)J" } : Jvm.MethodName) ({ cls := "StripedVaultModel", name := "value", desc := "(II)J" } : Jvm.MethodName)) ∈ TG := tw_14 82 (by decide +kernel) (by decide +kernel)
theorem w_14_83 : (Jvm.Cond.code ({ cls := "StripedVaultModel", name := "value", desc := "(II)J" } : Jvm.MethodName) prog_14_method_206_code (5 : Nat) (Option.some Jvm.ClassFile.FieldType.long)) ∈ TG := tw_14 83 (by decide +kernel) (by decide +kernel)
theorem w_14_84 : (Jvm.Cond.methodLink "StripedVaultLaw" (108 : Nat) ({ cls := "StripedVaultModel", name := "letter", desc := "(III)I" } : Jvm.MethodName)) ∈ TG := tw_14 84 (by decide +kernel) (by decide +kernel)
theorem w_14_85 : (Jvm.Cond.instanceMethod ({ cls := "StripedVaultModel", name := "letter", desc := "(III)I" } : Jvm.MethodName)) ∈ TG := tw_14 85 (by decide +kernel) (by decide +kernel)
theorem w_14_86 : (Jvm.Cond.selects "StripedVaultModel" ({ cls := "StripedVaultModel", name := "letter", desc := "(III)I" } : Jvm.MethodName) ({ cls := "StripedVaultModel", name := "letter", desc := "(III)I" } : Jvm.MethodName)) ∈ TG := tw_14 86 (by decide +kernel) (by decide +kernel)
theorem w_14_87 : (Jvm.Cond.code ({ cls := "StripedVaultModel", name := "letter", desc := "(III)I" } : Jvm.MethodName) prog_14_method_207_code (5 : Nat) (Option.some Jvm.ClassFile.FieldType.int)) ∈ TG := tw_14 87 (by decide +kernel) (by decide +kernel)
theorem w_14_88 : (Jvm.Cond.methodLink "StripedVaultLaw" (112 : Nat) ({ cls := "StripedVaultModel", name := "skipped", desc := "(I)I" } : Jvm.MethodName)) ∈ TG := tw_14 88 (by decide +kernel) (by decide +kernel)
theorem w_14_89 : (Jvm.Cond.instanceMethod ({ cls := "StripedVaultModel", name := "skipped", desc := "(I)I" } : Jvm.MethodName)) ∈ TG := tw_14 89 (by decide +kernel) (by decide +kernel)
theorem w_14_90 : (Jvm.Cond.selects "StripedVaultModel" ({ cls := "StripedVaultModel", name := "skipped", desc := "(I)I" } : Jvm.MethodName) ({ cls := "StripedVaultModel", name := "skipped", desc := "(I)I" } : Jvm.MethodName)) ∈ TG := tw_14 90 (by decide +kernel) (by decide +kernel)
theorem w_14_91 : (Jvm.Cond.code ({ cls := "StripedVaultModel", name := "skipped", desc := "(I)I" } : Jvm.MethodName) prog_14_method_208_code (2 : Nat) (Option.some Jvm.ClassFile.FieldType.int)) ∈ TG := tw_14 91 (by decide +kernel) (by decide +kernel)
theorem w_1_22 : (Jvm.Cond.classLink "StripedVaultLaw" (7 : Nat) "StripedVault") ∈ TG := tw_1 22 (by decide +kernel) (by decide +kernel)
theorem w_1_23 : (Jvm.Cond.instantiable "StripedVault" (15 : Nat)) ∈ TG := tw_1 23 (by decide +kernel) (by decide +kernel)
theorem w_1_24 : (Jvm.Cond.methodLink "StripedVaultLaw" (9 : Nat) ({ cls := "StripedVault", name := "<init>", desc := "()V" } : Jvm.MethodName)) ∈ TG := tw_1 24 (by decide +kernel) (by decide +kernel)
theorem w_1_25 : (Jvm.Cond.instanceMethod ({ cls := "StripedVault", name := "<init>", desc := "()V" } : Jvm.MethodName)) ∈ TG := tw_1 25 (by decide +kernel) (by decide +kernel)
theorem w_1_26 : (Jvm.Cond.code ({ cls := "StripedVault", name := "<init>", desc := "()V" } : Jvm.MethodName) prog_1_method_1_code (1 : Nat) (Option.none : Option Jvm.ClassFile.FieldType)) ∈ TG := tw_1 26 (by decide +kernel) (by decide +kernel)
theorem w_4_41 : (Jvm.Cond.methodLink "StripedVaultLaw" (13 : Nat) ({ cls := "StripedVault", name := "feed", desc := "(IIIII)Z" } : Jvm.MethodName)) ∈ TG := tw_4 41 (by decide +kernel) (by decide +kernel)
theorem w_4_42 : (Jvm.Cond.instanceMethod ({ cls := "StripedVault", name := "feed", desc := "(IIIII)Z" } : Jvm.MethodName)) ∈ TG := tw_4 42 (by decide +kernel) (by decide +kernel)
theorem w_4_43 : (Jvm.Cond.selects "StripedVault" ({ cls := "StripedVault", name := "feed", desc := "(IIIII)Z" } : Jvm.MethodName) ({ cls := "StripedVault", name := "feed", desc := "(IIIII)Z" } : Jvm.MethodName)) ∈ TG := tw_4 43 (by decide +kernel) (by decide +kernel)
theorem w_4_44 : (Jvm.Cond.code ({ cls := "StripedVault", name := "feed", desc := "(IIIII)Z" } : Jvm.MethodName) prog_1_method_2_code (6 : Nat) (Option.some Jvm.ClassFile.FieldType.boolean)) ∈ TG := tw_4 44 (by decide +kernel) (by decide +kernel)
theorem w_4_74 : (Jvm.Cond.methodLink "StripedVaultLaw" (18 : Nat) ({ cls := "StripedVault", name := "end", desc := "(I)Z" } : Jvm.MethodName)) ∈ TG := tw_4 74 (by decide +kernel) (by decide +kernel)
theorem w_4_75 : (Jvm.Cond.instanceMethod ({ cls := "StripedVault", name := "end", desc := "(I)Z" } : Jvm.MethodName)) ∈ TG := tw_4 75 (by decide +kernel) (by decide +kernel)
theorem w_4_76 : (Jvm.Cond.selects "StripedVault" ({ cls := "StripedVault", name := "end", desc := "(I)Z" } : Jvm.MethodName) ({ cls := "StripedVault", name := "end", desc := "(I)Z" } : Jvm.MethodName)) ∈ TG := tw_4 76 (by decide +kernel) (by decide +kernel)
theorem w_4_77 : (Jvm.Cond.code ({ cls := "StripedVault", name := "end", desc := "(I)Z" } : Jvm.MethodName) prog_1_method_4_code (3 : Nat) (Option.some Jvm.ClassFile.FieldType.boolean)) ∈ TG := tw_4 77 (by decide +kernel) (by decide +kernel)
theorem w_4_82 : (Jvm.Cond.methodLink "StripedVaultLaw" (23 : Nat) ({ cls := "StripedVault", name := "schema", desc := "()I" } : Jvm.MethodName)) ∈ TG := tw_4 82 (by decide +kernel) (by decide +kernel)
theorem w_4_83 : (Jvm.Cond.instanceMethod ({ cls := "StripedVault", name := "schema", desc := "()I" } : Jvm.MethodName)) ∈ TG := tw_4 83 (by decide +kernel) (by decide +kernel)
theorem w_4_84 : (Jvm.Cond.selects "StripedVault" ({ cls := "StripedVault", name := "schema", desc := "()I" } : Jvm.MethodName) ({ cls := "StripedVault", name := "schema", desc := "()I" } : Jvm.MethodName)) ∈ TG := tw_4 84 (by decide +kernel) (by decide +kernel)
theorem w_4_85 : (Jvm.Cond.code ({ cls := "StripedVault", name := "schema", desc := "()I" } : Jvm.MethodName) prog_1_method_5_code (4 : Nat) (Option.some Jvm.ClassFile.FieldType.int)) ∈ TG := tw_4 85 (by decide +kernel) (by decide +kernel)
theorem w_5_115 : (Jvm.Cond.methodLink "StripedVaultLaw" (32 : Nat) ({ cls := "StripedVault", name := "records", desc := "()I" } : Jvm.MethodName)) ∈ TG := tw_5 115 (by decide +kernel) (by decide +kernel)
theorem w_5_116 : (Jvm.Cond.instanceMethod ({ cls := "StripedVault", name := "records", desc := "()I" } : Jvm.MethodName)) ∈ TG := tw_5 116 (by decide +kernel) (by decide +kernel)
theorem w_5_117 : (Jvm.Cond.selects "StripedVault" ({ cls := "StripedVault", name := "records", desc := "()I" } : Jvm.MethodName) ({ cls := "StripedVault", name := "records", desc := "()I" } : Jvm.MethodName)) ∈ TG := tw_5 117 (by decide +kernel) (by decide +kernel)
theorem w_5_118 : (Jvm.Cond.code ({ cls := "StripedVault", name := "records", desc := "()I" } : Jvm.MethodName) prog_1_method_8_code (1 : Nat) (Option.some Jvm.ClassFile.FieldType.int)) ∈ TG := tw_5 118 (by decide +kernel) (by decide +kernel)
theorem w_5_119 : (Jvm.Cond.methodLink "StripedVaultLaw" (36 : Nat) ({ cls := "StripedVault", name := "clear", desc := "()V" } : Jvm.MethodName)) ∈ TG := tw_5 119 (by decide +kernel) (by decide +kernel)
theorem w_5_120 : (Jvm.Cond.instanceMethod ({ cls := "StripedVault", name := "clear", desc := "()V" } : Jvm.MethodName)) ∈ TG := tw_5 120 (by decide +kernel) (by decide +kernel)
theorem w_5_121 : (Jvm.Cond.selects "StripedVault" ({ cls := "StripedVault", name := "clear", desc := "()V" } : Jvm.MethodName) ({ cls := "StripedVault", name := "clear", desc := "()V" } : Jvm.MethodName)) ∈ TG := tw_5 121 (by decide +kernel) (by decide +kernel)
theorem w_5_122 : (Jvm.Cond.code ({ cls := "StripedVault", name := "clear", desc := "()V" } : Jvm.MethodName) prog_1_method_9_code (1 : Nat) (Option.none : Option Jvm.ClassFile.FieldType)) ∈ TG := tw_5 122 (by decide +kernel) (by decide +kernel)
theorem w_5_123 : (Jvm.Cond.methodLink "StripedVaultLaw" (40 : Nat) ({ cls := "StripedVault", name := "write", desc := "(II)I" } : Jvm.MethodName)) ∈ TG := tw_5 123 (by decide +kernel) (by decide +kernel)
theorem w_5_124 : (Jvm.Cond.instanceMethod ({ cls := "StripedVault", name := "write", desc := "(II)I" } : Jvm.MethodName)) ∈ TG := tw_5 124 (by decide +kernel) (by decide +kernel)
theorem w_5_125 : (Jvm.Cond.selects "StripedVault" ({ cls := "StripedVault", name := "write", desc := "(II)I" } : Jvm.MethodName) ({ cls := "StripedVault", name := "write", desc := "(II)I" } : Jvm.MethodName)) ∈ TG := tw_5 125 (by decide +kernel) (by decide +kernel)
theorem w_5_126 : (Jvm.Cond.code ({ cls := "StripedVault", name := "write", desc := "(II)I" } : Jvm.MethodName) prog_1_method_10_code (8 : Nat) (Option.some Jvm.ClassFile.FieldType.int)) ∈ TG := tw_5 126 (by decide +kernel) (by decide +kernel)
theorem w_5_15 : (Jvm.Cond.methodLink "StripedVaultLaw" (28 : Nat) ({ cls := "StripedVault", name := "record", desc := "()I" } : Jvm.MethodName)) ∈ TG := tw_5 15 (by decide +kernel) (by decide +kernel)
theorem w_5_16 : (Jvm.Cond.instanceMethod ({ cls := "StripedVault", name := "record", desc := "()I" } : Jvm.MethodName)) ∈ TG := tw_5 16 (by decide +kernel) (by decide +kernel)
theorem w_5_17 : (Jvm.Cond.selects "StripedVault" ({ cls := "StripedVault", name := "record", desc := "()I" } : Jvm.MethodName) ({ cls := "StripedVault", name := "record", desc := "()I" } : Jvm.MethodName)) ∈ TG := tw_5 17 (by decide +kernel) (by decide +kernel)
theorem w_5_18 : (Jvm.Cond.code ({ cls := "StripedVault", name := "record", desc := "()I" } : Jvm.MethodName) prog_1_method_7_code (2 : Nat) (Option.some Jvm.ClassFile.FieldType.int)) ∈ TG := tw_5 18 (by decide +kernel) (by decide +kernel)
theorem w_6_54 : (Jvm.Cond.methodLink "StripedVaultLaw" (45 : Nat) ({ cls := "StripedVault", name := "take", desc := "()V" } : Jvm.MethodName)) ∈ TG := tw_6 54 (by decide +kernel) (by decide +kernel)
theorem w_6_55 : (Jvm.Cond.instanceMethod ({ cls := "StripedVault", name := "take", desc := "()V" } : Jvm.MethodName)) ∈ TG := tw_6 55 (by decide +kernel) (by decide +kernel)
theorem w_6_56 : (Jvm.Cond.selects "StripedVault" ({ cls := "StripedVault", name := "take", desc := "()V" } : Jvm.MethodName) ({ cls := "StripedVault", name := "take", desc := "()V" } : Jvm.MethodName)) ∈ TG := tw_6 56 (by decide +kernel) (by decide +kernel)
theorem w_6_57 : (Jvm.Cond.code ({ cls := "StripedVault", name := "take", desc := "()V" } : Jvm.MethodName) prog_1_method_11_code (2 : Nat) (Option.none : Option Jvm.ClassFile.FieldType)) ∈ TG := tw_6 57 (by decide +kernel) (by decide +kernel)
theorem w_6_58 : (Jvm.Cond.methodLink "StripedVaultLaw" (49 : Nat) ({ cls := "StripedVault", name := "size", desc := "()I" } : Jvm.MethodName)) ∈ TG := tw_6 58 (by decide +kernel) (by decide +kernel)
theorem w_6_59 : (Jvm.Cond.instanceMethod ({ cls := "StripedVault", name := "size", desc := "()I" } : Jvm.MethodName)) ∈ TG := tw_6 59 (by decide +kernel) (by decide +kernel)
theorem w_6_60 : (Jvm.Cond.selects "StripedVault" ({ cls := "StripedVault", name := "size", desc := "()I" } : Jvm.MethodName) ({ cls := "StripedVault", name := "size", desc := "()I" } : Jvm.MethodName)) ∈ TG := tw_6 60 (by decide +kernel) (by decide +kernel)
theorem w_6_61 : (Jvm.Cond.code ({ cls := "StripedVault", name := "size", desc := "()I" } : Jvm.MethodName) prog_1_method_12_code (1 : Nat) (Option.some Jvm.ClassFile.FieldType.int)) ∈ TG := tw_6 61 (by decide +kernel) (by decide +kernel)
theorem w_6_62 : (Jvm.Cond.methodLink "StripedVaultLaw" (53 : Nat) ({ cls := "StripedVault", name := "byteOf", desc := "(I)I" } : Jvm.MethodName)) ∈ TG := tw_6 62 (by decide +kernel) (by decide +kernel)
theorem w_6_63 : (Jvm.Cond.instanceMethod ({ cls := "StripedVault", name := "byteOf", desc := "(I)I" } : Jvm.MethodName)) ∈ TG := tw_6 63 (by decide +kernel) (by decide +kernel)
theorem w_6_64 : (Jvm.Cond.selects "StripedVault" ({ cls := "StripedVault", name := "byteOf", desc := "(I)I" } : Jvm.MethodName) ({ cls := "StripedVault", name := "byteOf", desc := "(I)I" } : Jvm.MethodName)) ∈ TG := tw_6 64 (by decide +kernel) (by decide +kernel)
theorem w_6_65 : (Jvm.Cond.code ({ cls := "StripedVault", name := "byteOf", desc := "(I)I" } : Jvm.MethodName) prog_1_method_13_code (2 : Nat) (Option.some Jvm.ClassFile.FieldType.int)) ∈ TG := tw_6 65 (by decide +kernel) (by decide +kernel)
theorem w_6_66 : (Jvm.Cond.methodLink "StripedVaultLaw" (58 : Nat) ({ cls := "StripedVault", name := "poke", desc := "(II)Z" } : Jvm.MethodName)) ∈ TG := tw_6 66 (by decide +kernel) (by decide +kernel)
theorem w_6_67 : (Jvm.Cond.instanceMethod ({ cls := "StripedVault", name := "poke", desc := "(II)Z" } : Jvm.MethodName)) ∈ TG := tw_6 67 (by decide +kernel) (by decide +kernel)
theorem w_6_68 : (Jvm.Cond.selects "StripedVault" ({ cls := "StripedVault", name := "poke", desc := "(II)Z" } : Jvm.MethodName) ({ cls := "StripedVault", name := "poke", desc := "(II)Z" } : Jvm.MethodName)) ∈ TG := tw_6 68 (by decide +kernel) (by decide +kernel)
theorem w_6_69 : (Jvm.Cond.code ({ cls := "StripedVault", name := "poke", desc := "(II)Z" } : Jvm.MethodName) prog_1_method_14_code (3 : Nat) (Option.some Jvm.ClassFile.FieldType.boolean)) ∈ TG := tw_6 69 (by decide +kernel) (by decide +kernel)
theorem w_6_70 : (Jvm.Cond.methodLink "StripedVaultLaw" (63 : Nat) ({ cls := "StripedVault", name := "open", desc := "()I" } : Jvm.MethodName)) ∈ TG := tw_6 70 (by decide +kernel) (by decide +kernel)
theorem w_6_71 : (Jvm.Cond.instanceMethod ({ cls := "StripedVault", name := "open", desc := "()I" } : Jvm.MethodName)) ∈ TG := tw_6 71 (by decide +kernel) (by decide +kernel)
theorem w_6_72 : (Jvm.Cond.selects "StripedVault" ({ cls := "StripedVault", name := "open", desc := "()I" } : Jvm.MethodName) ({ cls := "StripedVault", name := "open", desc := "()I" } : Jvm.MethodName)) ∈ TG := tw_6 72 (by decide +kernel) (by decide +kernel)
theorem w_6_73 : (Jvm.Cond.code ({ cls := "StripedVault", name := "open", desc := "()I" } : Jvm.MethodName) prog_1_method_15_code (2 : Nat) (Option.some Jvm.ClassFile.FieldType.int)) ∈ TG := tw_6 73 (by decide +kernel) (by decide +kernel)
theorem w_7_133 : (Jvm.Cond.methodLink "StripedVaultLaw" (79 : Nat) ({ cls := "StripedVault", name := "query", desc := "()I" } : Jvm.MethodName)) ∈ TG := tw_7 133 (by decide +kernel) (by decide +kernel)
theorem w_7_134 : (Jvm.Cond.instanceMethod ({ cls := "StripedVault", name := "query", desc := "()I" } : Jvm.MethodName)) ∈ TG := tw_7 134 (by decide +kernel) (by decide +kernel)
theorem w_7_135 : (Jvm.Cond.selects "StripedVault" ({ cls := "StripedVault", name := "query", desc := "()I" } : Jvm.MethodName) ({ cls := "StripedVault", name := "query", desc := "()I" } : Jvm.MethodName)) ∈ TG := tw_7 135 (by decide +kernel) (by decide +kernel)
theorem w_7_136 : (Jvm.Cond.code ({ cls := "StripedVault", name := "query", desc := "()I" } : Jvm.MethodName) prog_1_method_19_code (4 : Nat) (Option.some Jvm.ClassFile.FieldType.int)) ∈ TG := tw_7 136 (by decide +kernel) (by decide +kernel)
theorem w_7_64 : (Jvm.Cond.methodLink "StripedVaultLaw" (67 : Nat) ({ cls := "StripedVault", name := "fault", desc := "(I)I" } : Jvm.MethodName)) ∈ TG := tw_7 64 (by decide +kernel) (by decide +kernel)
theorem w_7_65 : (Jvm.Cond.instanceMethod ({ cls := "StripedVault", name := "fault", desc := "(I)I" } : Jvm.MethodName)) ∈ TG := tw_7 65 (by decide +kernel) (by decide +kernel)
theorem w_7_66 : (Jvm.Cond.selects "StripedVault" ({ cls := "StripedVault", name := "fault", desc := "(I)I" } : Jvm.MethodName) ({ cls := "StripedVault", name := "fault", desc := "(I)I" } : Jvm.MethodName)) ∈ TG := tw_7 66 (by decide +kernel) (by decide +kernel)
theorem w_7_67 : (Jvm.Cond.code ({ cls := "StripedVault", name := "fault", desc := "(I)I" } : Jvm.MethodName) prog_1_method_16_code (2 : Nat) (Option.some Jvm.ClassFile.FieldType.int)) ∈ TG := tw_7 67 (by decide +kernel) (by decide +kernel)
theorem w_7_68 : (Jvm.Cond.methodLink "StripedVaultLaw" (71 : Nat) ({ cls := "StripedVault", name := "opened", desc := "(I)I" } : Jvm.MethodName)) ∈ TG := tw_7 68 (by decide +kernel) (by decide +kernel)
theorem w_7_69 : (Jvm.Cond.instanceMethod ({ cls := "StripedVault", name := "opened", desc := "(I)I" } : Jvm.MethodName)) ∈ TG := tw_7 69 (by decide +kernel) (by decide +kernel)
theorem w_7_70 : (Jvm.Cond.selects "StripedVault" ({ cls := "StripedVault", name := "opened", desc := "(I)I" } : Jvm.MethodName) ({ cls := "StripedVault", name := "opened", desc := "(I)I" } : Jvm.MethodName)) ∈ TG := tw_7 70 (by decide +kernel) (by decide +kernel)
theorem w_7_71 : (Jvm.Cond.code ({ cls := "StripedVault", name := "opened", desc := "(I)I" } : Jvm.MethodName) prog_1_method_17_code (2 : Nat) (Option.some Jvm.ClassFile.FieldType.int)) ∈ TG := tw_7 71 (by decide +kernel) (by decide +kernel)
theorem w_7_72 : (Jvm.Cond.methodLink "StripedVaultLaw" (75 : Nat) ({ cls := "StripedVault", name := "show", desc := "(I)I" } : Jvm.MethodName)) ∈ TG := tw_7 72 (by decide +kernel) (by decide +kernel)
theorem w_7_73 : (Jvm.Cond.instanceMethod ({ cls := "StripedVault", name := "show", desc := "(I)I" } : Jvm.MethodName)) ∈ TG := tw_7 73 (by decide +kernel) (by decide +kernel)
theorem w_7_74 : (Jvm.Cond.selects "StripedVault" ({ cls := "StripedVault", name := "show", desc := "(I)I" } : Jvm.MethodName) ({ cls := "StripedVault", name := "show", desc := "(I)I" } : Jvm.MethodName)) ∈ TG := tw_7 74 (by decide +kernel) (by decide +kernel)
theorem w_7_75 : (Jvm.Cond.code ({ cls := "StripedVault", name := "show", desc := "(I)I" } : Jvm.MethodName) prog_1_method_18_code (2 : Nat) (Option.some Jvm.ClassFile.FieldType.int)) ∈ TG := tw_7 75 (by decide +kernel) (by decide +kernel)
theorem w_8_131 : (Jvm.Cond.methodLink "StripedVaultLaw" (87 : Nat) ({ cls := "StripedVault", name := "row", desc := "(I)I" } : Jvm.MethodName)) ∈ TG := tw_8 131 (by decide +kernel) (by decide +kernel)
theorem w_8_132 : (Jvm.Cond.instanceMethod ({ cls := "StripedVault", name := "row", desc := "(I)I" } : Jvm.MethodName)) ∈ TG := tw_8 132 (by decide +kernel) (by decide +kernel)
theorem w_8_133 : (Jvm.Cond.selects "StripedVault" ({ cls := "StripedVault", name := "row", desc := "(I)I" } : Jvm.MethodName) ({ cls := "StripedVault", name := "row", desc := "(I)I" } : Jvm.MethodName)) ∈ TG := tw_8 133 (by decide +kernel) (by decide +kernel)
theorem w_8_134 : (Jvm.Cond.code ({ cls := "StripedVault", name := "row", desc := "(I)I" } : Jvm.MethodName) prog_1_method_21_code (2 : Nat) (Option.some Jvm.ClassFile.FieldType.int)) ∈ TG := tw_8 134 (by decide +kernel) (by decide +kernel)
theorem w_8_139 : (Jvm.Cond.methodLink "StripedVaultLaw" (91 : Nat) ({ cls := "StripedVault", name := "answer", desc := "(I)I" } : Jvm.MethodName)) ∈ TG := tw_8 139 (by decide +kernel) (by decide +kernel)
theorem w_8_140 : (Jvm.Cond.instanceMethod ({ cls := "StripedVault", name := "answer", desc := "(I)I" } : Jvm.MethodName)) ∈ TG := tw_8 140 (by decide +kernel) (by decide +kernel)
theorem w_8_141 : (Jvm.Cond.selects "StripedVault" ({ cls := "StripedVault", name := "answer", desc := "(I)I" } : Jvm.MethodName) ({ cls := "StripedVault", name := "answer", desc := "(I)I" } : Jvm.MethodName)) ∈ TG := tw_8 141 (by decide +kernel) (by decide +kernel)
theorem w_8_142 : (Jvm.Cond.code ({ cls := "StripedVault", name := "answer", desc := "(I)I" } : Jvm.MethodName) prog_1_method_22_code (2 : Nat) (Option.some Jvm.ClassFile.FieldType.int)) ∈ TG := tw_8 142 (by decide +kernel) (by decide +kernel)
theorem w_8_143 : (Jvm.Cond.methodLink "StripedVaultLaw" (95 : Nat) ({ cls := "StripedVault", name := "kind", desc := "(II)I" } : Jvm.MethodName)) ∈ TG := tw_8 143 (by decide +kernel) (by decide +kernel)
theorem w_8_144 : (Jvm.Cond.instanceMethod ({ cls := "StripedVault", name := "kind", desc := "(II)I" } : Jvm.MethodName)) ∈ TG := tw_8 144 (by decide +kernel) (by decide +kernel)
theorem w_8_145 : (Jvm.Cond.selects "StripedVault" ({ cls := "StripedVault", name := "kind", desc := "(II)I" } : Jvm.MethodName) ({ cls := "StripedVault", name := "kind", desc := "(II)I" } : Jvm.MethodName)) ∈ TG := tw_8 145 (by decide +kernel) (by decide +kernel)
theorem w_8_146 : (Jvm.Cond.code ({ cls := "StripedVault", name := "kind", desc := "(II)I" } : Jvm.MethodName) prog_1_method_23_code (4 : Nat) (Option.some Jvm.ClassFile.FieldType.int)) ∈ TG := tw_8 146 (by decide +kernel) (by decide +kernel)
theorem w_8_151 : (Jvm.Cond.methodLink "StripedVaultLaw" (99 : Nat) ({ cls := "StripedVault", name := "value", desc := "(II)J" } : Jvm.MethodName)) ∈ TG := tw_8 151 (by decide +kernel) (by decide +kernel)
theorem w_8_152 : (Jvm.Cond.instanceMethod ({ cls := "StripedVault", name := "value", desc := "(II)J" } : Jvm.MethodName)) ∈ TG := tw_8 152 (by decide +kernel) (by decide +kernel)
theorem w_8_153 : (Jvm.Cond.selects "StripedVault" ({ cls := "StripedVault", name := "value", desc := "(II)J" } : Jvm.MethodName) ({ cls := "StripedVault", name := "value", desc := "(II)J" } : Jvm.MethodName)) ∈ TG := tw_8 153 (by decide +kernel) (by decide +kernel)
theorem w_8_154 : (Jvm.Cond.code ({ cls := "StripedVault", name := "value", desc := "(II)J" } : Jvm.MethodName) prog_1_method_24_code (4 : Nat) (Option.some Jvm.ClassFile.FieldType.long)) ∈ TG := tw_8 154 (by decide +kernel) (by decide +kernel)
theorem w_8_155 : (Jvm.Cond.methodLink "StripedVaultLaw" (104 : Nat) ({ cls := "StripedVault", name := "letter", desc := "(III)I" } : Jvm.MethodName)) ∈ TG := tw_8 155 (by decide +kernel) (by decide +kernel)
theorem w_8_156 : (Jvm.Cond.instanceMethod ({ cls := "StripedVault", name := "letter", desc := "(III)I" } : Jvm.MethodName)) ∈ TG := tw_8 156 (by decide +kernel) (by decide +kernel)
theorem w_8_157 : (Jvm.Cond.selects "StripedVault" ({ cls := "StripedVault", name := "letter", desc := "(III)I" } : Jvm.MethodName) ({ cls := "StripedVault", name := "letter", desc := "(III)I" } : Jvm.MethodName)) ∈ TG := tw_8 157 (by decide +kernel) (by decide +kernel)
theorem w_8_158 : (Jvm.Cond.code ({ cls := "StripedVault", name := "letter", desc := "(III)I" } : Jvm.MethodName) prog_1_method_25_code (5 : Nat) (Option.some Jvm.ClassFile.FieldType.int)) ∈ TG := tw_8 158 (by decide +kernel) (by decide +kernel)
theorem w_8_16 : (Jvm.Cond.methodLink "StripedVaultLaw" (83 : Nat) ({ cls := "StripedVault", name := "run", desc := "()I" } : Jvm.MethodName)) ∈ TG := tw_8 16 (by decide +kernel) (by decide +kernel)
theorem w_8_161 : (Jvm.Cond.methodLink "StripedVaultLaw" (109 : Nat) ({ cls := "StripedVault", name := "skipped", desc := "(I)I" } : Jvm.MethodName)) ∈ TG := tw_8 161 (by decide +kernel) (by decide +kernel)
theorem w_8_162 : (Jvm.Cond.instanceMethod ({ cls := "StripedVault", name := "skipped", desc := "(I)I" } : Jvm.MethodName)) ∈ TG := tw_8 162 (by decide +kernel) (by decide +kernel)
theorem w_8_163 : (Jvm.Cond.selects "StripedVault" ({ cls := "StripedVault", name := "skipped", desc := "(I)I" } : Jvm.MethodName) ({ cls := "StripedVault", name := "skipped", desc := "(I)I" } : Jvm.MethodName)) ∈ TG := tw_8 163 (by decide +kernel) (by decide +kernel)
theorem w_8_164 : (Jvm.Cond.code ({ cls := "StripedVault", name := "skipped", desc := "(I)I" } : Jvm.MethodName) prog_1_method_26_code (2 : Nat) (Option.some Jvm.ClassFile.FieldType.int)) ∈ TG := tw_8 164 (by decide +kernel) (by decide +kernel)
theorem w_8_165 : (Jvm.Cond.methodLink "StripedVaultLaw" (113 : Nat) ({ cls := "StripedVault", name := "output", desc := "(I)I" } : Jvm.MethodName)) ∈ TG := tw_8 165 (by decide +kernel) (by decide +kernel)
theorem w_8_166 : (Jvm.Cond.instanceMethod ({ cls := "StripedVault", name := "output", desc := "(I)I" } : Jvm.MethodName)) ∈ TG := tw_8 166 (by decide +kernel) (by decide +kernel)
theorem w_8_167 : (Jvm.Cond.selects "StripedVault" ({ cls := "StripedVault", name := "output", desc := "(I)I" } : Jvm.MethodName) ({ cls := "StripedVault", name := "output", desc := "(I)I" } : Jvm.MethodName)) ∈ TG := tw_8 167 (by decide +kernel) (by decide +kernel)
theorem w_8_168 : (Jvm.Cond.code ({ cls := "StripedVault", name := "output", desc := "(I)I" } : Jvm.MethodName) prog_1_method_27_code (2 : Nat) (Option.some Jvm.ClassFile.FieldType.int)) ∈ TG := tw_8 168 (by decide +kernel) (by decide +kernel)
theorem w_8_169 : (Jvm.Cond.classLink "StripedVaultLaw" (10 : Nat) "StripedVaultModel") ∈ TG := tw_8 169 (by decide +kernel) (by decide +kernel)
theorem w_8_17 : (Jvm.Cond.instanceMethod ({ cls := "StripedVault", name := "run", desc := "()I" } : Jvm.MethodName)) ∈ TG := tw_8 17 (by decide +kernel) (by decide +kernel)
theorem w_8_170 : (Jvm.Cond.instantiable "StripedVaultModel" (167 : Nat)) ∈ TG := tw_8 170 (by decide +kernel) (by decide +kernel)
theorem w_8_171 : (Jvm.Cond.methodLink "StripedVaultLaw" (12 : Nat) ({ cls := "StripedVaultModel", name := "<init>", desc := "()V" } : Jvm.MethodName)) ∈ TG := tw_8 171 (by decide +kernel) (by decide +kernel)
theorem w_8_172 : (Jvm.Cond.instanceMethod ({ cls := "StripedVaultModel", name := "<init>", desc := "()V" } : Jvm.MethodName)) ∈ TG := tw_8 172 (by decide +kernel) (by decide +kernel)
theorem w_8_173 : (Jvm.Cond.code ({ cls := "StripedVaultModel", name := "<init>", desc := "()V" } : Jvm.MethodName) prog_14_method_1_code (2 : Nat) (Option.none : Option Jvm.ClassFile.FieldType)) ∈ TG := tw_8 173 (by decide +kernel) (by decide +kernel)
theorem w_8_18 : (Jvm.Cond.selects "StripedVault" ({ cls := "StripedVault", name := "run", desc := "()I" } : Jvm.MethodName) ({ cls := "StripedVault", name := "run", desc := "()I" } : Jvm.MethodName)) ∈ TG := tw_8 18 (by decide +kernel) (by decide +kernel)
theorem w_8_19 : (Jvm.Cond.code ({ cls := "StripedVault", name := "run", desc := "()I" } : Jvm.MethodName) prog_1_method_20_code (2 : Nat) (Option.some Jvm.ClassFile.FieldType.int)) ∈ TG := tw_8 19 (by decide +kernel) (by decide +kernel)
theorem d_law_703 : decode b_law 703 = .ok (.iinc 3 6, 3) := by decide +kernel
theorem d_law_706 : decode b_law 706 = .ok (.goto (-688), 3) := by decide +kernel
theorem d_law_18 : decode b_law 18 = .ok (.iload_n 3, 1) := by decide +kernel
theorem d_law_19 : decode b_law 19 = .ok (.aload_n 0, 1) := by decide +kernel
theorem d_law_20 : decode b_law 20 = .ok (.arraylength, 1) := by decide +kernel
theorem d_law_21 : decode b_law 21 = .ok (.bipush 6, 2) := by decide +kernel
theorem d_law_23 : decode b_law 23 = .ok (.isub, 1) := by decide +kernel
theorem d_law_24 : decode b_law 24 = .ok (.if_icmp .gt 685, 3) := by decide +kernel
theorem d_law_709 : decode b_law 709 = .ok (.iconst 1, 1) := by decide +kernel
theorem d_law_710 : decode b_law 710 = .ok (.ireturn, 1) := by decide +kernel
theorem d_law_144 : decode b_law 144 = .ok (.aload_n 1, 1) := by decide +kernel
theorem d_law_145 : decode b_law 145 = .ok (.aload_n 0, 1) := by decide +kernel
theorem d_law_146 : decode b_law 146 = .ok (.iload_n 3, 1) := by decide +kernel
theorem d_law_147 : decode b_law 147 = .ok (.iconst 1, 1) := by decide +kernel
theorem d_law_148 : decode b_law 148 = .ok (.iadd, 1) := by decide +kernel
theorem d_law_149 : decode b_law 149 = .ok (.iaload, 1) := by decide +kernel
theorem d_law_150 : decode b_law 150 = .ok (.aload_n 0, 1) := by decide +kernel
theorem d_law_151 : decode b_law 151 = .ok (.iload_n 3, 1) := by decide +kernel
theorem d_law_152 : decode b_law 152 = .ok (.iconst 2, 1) := by decide +kernel
theorem d_law_153 : decode b_law 153 = .ok (.iadd, 1) := by decide +kernel
theorem d_law_154 : decode b_law 154 = .ok (.iaload, 1) := by decide +kernel
theorem d_law_155 : decode b_law 155 = .ok (.aload_n 0, 1) := by decide +kernel
theorem d_law_156 : decode b_law 156 = .ok (.iload_n 3, 1) := by decide +kernel
theorem d_law_157 : decode b_law 157 = .ok (.iconst 3, 1) := by decide +kernel
theorem d_law_158 : decode b_law 158 = .ok (.iadd, 1) := by decide +kernel
theorem d_law_159 : decode b_law 159 = .ok (.iaload, 1) := by decide +kernel
theorem d_law_160 : decode b_law 160 = .ok (.aload_n 0, 1) := by decide +kernel
theorem d_law_161 : decode b_law 161 = .ok (.iload_n 3, 1) := by decide +kernel
theorem d_law_162 : decode b_law 162 = .ok (.iconst 4, 1) := by decide +kernel
theorem d_law_163 : decode b_law 163 = .ok (.iadd, 1) := by decide +kernel
theorem d_law_164 : decode b_law 164 = .ok (.iaload, 1) := by decide +kernel
theorem d_law_165 : decode b_law 165 = .ok (.aload_n 0, 1) := by decide +kernel
theorem d_law_166 : decode b_law 166 = .ok (.iload_n 3, 1) := by decide +kernel
theorem d_law_167 : decode b_law 167 = .ok (.iconst 5, 1) := by decide +kernel
theorem d_law_168 : decode b_law 168 = .ok (.iadd, 1) := by decide +kernel
theorem d_law_169 : decode b_law 169 = .ok (.iaload, 1) := by decide +kernel
theorem d_law_170 : decode b_law 170 = .ok (.invokevirtual 13, 3) := by decide +kernel
theorem d_law_173 : decode b_law 173 = .ok (.aload_n 2, 1) := by decide +kernel
theorem d_law_174 : decode b_law 174 = .ok (.aload_n 0, 1) := by decide +kernel
theorem d_law_175 : decode b_law 175 = .ok (.iload_n 3, 1) := by decide +kernel
theorem d_law_176 : decode b_law 176 = .ok (.iconst 1, 1) := by decide +kernel
theorem d_law_177 : decode b_law 177 = .ok (.iadd, 1) := by decide +kernel
theorem d_law_178 : decode b_law 178 = .ok (.iaload, 1) := by decide +kernel
theorem d_law_179 : decode b_law 179 = .ok (.aload_n 0, 1) := by decide +kernel
theorem d_law_180 : decode b_law 180 = .ok (.iload_n 3, 1) := by decide +kernel
theorem d_law_181 : decode b_law 181 = .ok (.iconst 2, 1) := by decide +kernel
theorem d_law_182 : decode b_law 182 = .ok (.iadd, 1) := by decide +kernel
theorem d_law_183 : decode b_law 183 = .ok (.iaload, 1) := by decide +kernel
theorem d_law_184 : decode b_law 184 = .ok (.aload_n 0, 1) := by decide +kernel
theorem d_law_185 : decode b_law 185 = .ok (.iload_n 3, 1) := by decide +kernel
theorem d_law_186 : decode b_law 186 = .ok (.iconst 3, 1) := by decide +kernel
theorem d_law_187 : decode b_law 187 = .ok (.iadd, 1) := by decide +kernel
theorem d_law_188 : decode b_law 188 = .ok (.iaload, 1) := by decide +kernel
theorem d_law_189 : decode b_law 189 = .ok (.aload_n 0, 1) := by decide +kernel
theorem d_law_190 : decode b_law 190 = .ok (.iload_n 3, 1) := by decide +kernel
theorem d_law_191 : decode b_law 191 = .ok (.iconst 4, 1) := by decide +kernel
theorem d_law_192 : decode b_law 192 = .ok (.iadd, 1) := by decide +kernel
theorem d_law_193 : decode b_law 193 = .ok (.iaload, 1) := by decide +kernel
theorem d_law_194 : decode b_law 194 = .ok (.aload_n 0, 1) := by decide +kernel
theorem d_law_195 : decode b_law 195 = .ok (.iload_n 3, 1) := by decide +kernel
theorem d_law_196 : decode b_law 196 = .ok (.iconst 5, 1) := by decide +kernel
theorem d_law_197 : decode b_law 197 = .ok (.iadd, 1) := by decide +kernel
theorem d_law_198 : decode b_law 198 = .ok (.iaload, 1) := by decide +kernel
theorem d_law_199 : decode b_law 199 = .ok (.invokevirtual 17, 3) := by decide +kernel
theorem d_law_202 : decode b_law 202 = .ok (.if_icmp .eq 501, 3) := by decide +kernel
theorem d_law_207 : decode b_law 207 = .ok (.aload_n 1, 1) := by decide +kernel
theorem d_law_208 : decode b_law 208 = .ok (.aload_n 0, 1) := by decide +kernel
theorem d_law_209 : decode b_law 209 = .ok (.iload_n 3, 1) := by decide +kernel
theorem d_law_210 : decode b_law 210 = .ok (.iconst 1, 1) := by decide +kernel
theorem d_law_211 : decode b_law 211 = .ok (.iadd, 1) := by decide +kernel
theorem d_law_212 : decode b_law 212 = .ok (.iaload, 1) := by decide +kernel
theorem d_law_213 : decode b_law 213 = .ok (.invokevirtual 18, 3) := by decide +kernel
theorem d_law_216 : decode b_law 216 = .ok (.aload_n 2, 1) := by decide +kernel
theorem d_law_217 : decode b_law 217 = .ok (.aload_n 0, 1) := by decide +kernel
theorem d_law_218 : decode b_law 218 = .ok (.iload_n 3, 1) := by decide +kernel
theorem d_law_219 : decode b_law 219 = .ok (.iconst 1, 1) := by decide +kernel
theorem d_law_220 : decode b_law 220 = .ok (.iadd, 1) := by decide +kernel
theorem d_law_221 : decode b_law 221 = .ok (.iaload, 1) := by decide +kernel
theorem d_law_222 : decode b_law 222 = .ok (.invokevirtual 22, 3) := by decide +kernel
theorem d_law_225 : decode b_law 225 = .ok (.if_icmp .eq 478, 3) := by decide +kernel
theorem d_law_230 : decode b_law 230 = .ok (.aload_n 1, 1) := by decide +kernel
theorem d_law_231 : decode b_law 231 = .ok (.invokevirtual 23, 3) := by decide +kernel
theorem d_law_234 : decode b_law 234 = .ok (.aload_n 2, 1) := by decide +kernel
theorem d_law_235 : decode b_law 235 = .ok (.invokevirtual 27, 3) := by decide +kernel
theorem d_law_238 : decode b_law 238 = .ok (.if_icmp .eq 465, 3) := by decide +kernel
theorem d_law_243 : decode b_law 243 = .ok (.aload_n 1, 1) := by decide +kernel
theorem d_law_244 : decode b_law 244 = .ok (.invokevirtual 28, 3) := by decide +kernel
theorem d_law_247 : decode b_law 247 = .ok (.aload_n 2, 1) := by decide +kernel
theorem d_law_248 : decode b_law 248 = .ok (.invokevirtual 31, 3) := by decide +kernel
theorem d_law_251 : decode b_law 251 = .ok (.if_icmp .eq 452, 3) := by decide +kernel
theorem d_law_256 : decode b_law 256 = .ok (.aload_n 1, 1) := by decide +kernel
theorem d_law_257 : decode b_law 257 = .ok (.invokevirtual 32, 3) := by decide +kernel
theorem d_law_260 : decode b_law 260 = .ok (.aload_n 2, 1) := by decide +kernel
theorem d_law_261 : decode b_law 261 = .ok (.invokevirtual 35, 3) := by decide +kernel
theorem d_law_264 : decode b_law 264 = .ok (.if_icmp .eq 439, 3) := by decide +kernel
theorem d_law_269 : decode b_law 269 = .ok (.aload_n 1, 1) := by decide +kernel
theorem d_law_270 : decode b_law 270 = .ok (.invokevirtual 36, 3) := by decide +kernel
theorem d_law_273 : decode b_law 273 = .ok (.aload_n 2, 1) := by decide +kernel
theorem d_law_274 : decode b_law 274 = .ok (.invokevirtual 39, 3) := by decide +kernel
theorem d_law_277 : decode b_law 277 = .ok (.goto 426, 3) := by decide +kernel
theorem d_law_280 : decode b_law 280 = .ok (.aload_n 1, 1) := by decide +kernel
theorem d_law_281 : decode b_law 281 = .ok (.aload_n 0, 1) := by decide +kernel
theorem d_law_282 : decode b_law 282 = .ok (.iload_n 3, 1) := by decide +kernel
theorem d_law_283 : decode b_law 283 = .ok (.iconst 1, 1) := by decide +kernel
theorem d_law_284 : decode b_law 284 = .ok (.iadd, 1) := by decide +kernel
theorem d_law_285 : decode b_law 285 = .ok (.iaload, 1) := by decide +kernel
theorem d_law_286 : decode b_law 286 = .ok (.aload_n 0, 1) := by decide +kernel
theorem d_law_287 : decode b_law 287 = .ok (.iload_n 3, 1) := by decide +kernel
theorem d_law_288 : decode b_law 288 = .ok (.iconst 2, 1) := by decide +kernel
theorem d_law_289 : decode b_law 289 = .ok (.iadd, 1) := by decide +kernel
theorem d_law_290 : decode b_law 290 = .ok (.iaload, 1) := by decide +kernel
theorem d_law_291 : decode b_law 291 = .ok (.invokevirtual 40, 3) := by decide +kernel
theorem d_law_294 : decode b_law 294 = .ok (.aload_n 2, 1) := by decide +kernel
theorem d_law_295 : decode b_law 295 = .ok (.aload_n 0, 1) := by decide +kernel
theorem d_law_296 : decode b_law 296 = .ok (.iload_n 3, 1) := by decide +kernel
theorem d_law_297 : decode b_law 297 = .ok (.iconst 1, 1) := by decide +kernel
theorem d_law_298 : decode b_law 298 = .ok (.iadd, 1) := by decide +kernel
theorem d_law_299 : decode b_law 299 = .ok (.iaload, 1) := by decide +kernel
theorem d_law_300 : decode b_law 300 = .ok (.aload_n 0, 1) := by decide +kernel
theorem d_law_301 : decode b_law 301 = .ok (.iload_n 3, 1) := by decide +kernel
theorem d_law_302 : decode b_law 302 = .ok (.iconst 2, 1) := by decide +kernel
theorem d_law_303 : decode b_law 303 = .ok (.iadd, 1) := by decide +kernel
theorem d_law_304 : decode b_law 304 = .ok (.iaload, 1) := by decide +kernel
theorem d_law_305 : decode b_law 305 = .ok (.invokevirtual 44, 3) := by decide +kernel
theorem d_law_308 : decode b_law 308 = .ok (.if_icmp .eq 395, 3) := by decide +kernel
theorem d_law_313 : decode b_law 313 = .ok (.aload_n 1, 1) := by decide +kernel
theorem d_law_314 : decode b_law 314 = .ok (.invokevirtual 45, 3) := by decide +kernel
theorem d_law_317 : decode b_law 317 = .ok (.aload_n 2, 1) := by decide +kernel
theorem d_law_318 : decode b_law 318 = .ok (.invokevirtual 48, 3) := by decide +kernel
theorem d_law_321 : decode b_law 321 = .ok (.goto 382, 3) := by decide +kernel
theorem d_law_324 : decode b_law 324 = .ok (.aload_n 1, 1) := by decide +kernel
theorem d_law_325 : decode b_law 325 = .ok (.invokevirtual 49, 3) := by decide +kernel
theorem d_law_328 : decode b_law 328 = .ok (.aload_n 2, 1) := by decide +kernel
theorem d_law_329 : decode b_law 329 = .ok (.invokevirtual 52, 3) := by decide +kernel
theorem d_law_332 : decode b_law 332 = .ok (.if_icmp .eq 371, 3) := by decide +kernel
theorem d_law_337 : decode b_law 337 = .ok (.aload_n 1, 1) := by decide +kernel
theorem d_law_338 : decode b_law 338 = .ok (.aload_n 0, 1) := by decide +kernel
theorem d_law_339 : decode b_law 339 = .ok (.iload_n 3, 1) := by decide +kernel
theorem d_law_340 : decode b_law 340 = .ok (.iconst 1, 1) := by decide +kernel
theorem d_law_341 : decode b_law 341 = .ok (.iadd, 1) := by decide +kernel
theorem d_law_342 : decode b_law 342 = .ok (.iaload, 1) := by decide +kernel
theorem d_law_343 : decode b_law 343 = .ok (.invokevirtual 53, 3) := by decide +kernel
theorem d_law_346 : decode b_law 346 = .ok (.aload_n 2, 1) := by decide +kernel
theorem d_law_347 : decode b_law 347 = .ok (.aload_n 0, 1) := by decide +kernel
theorem d_law_348 : decode b_law 348 = .ok (.iload_n 3, 1) := by decide +kernel
theorem d_law_349 : decode b_law 349 = .ok (.iconst 1, 1) := by decide +kernel
theorem d_law_350 : decode b_law 350 = .ok (.iadd, 1) := by decide +kernel
theorem d_law_351 : decode b_law 351 = .ok (.iaload, 1) := by decide +kernel
theorem d_law_352 : decode b_law 352 = .ok (.invokevirtual 57, 3) := by decide +kernel
theorem d_law_355 : decode b_law 355 = .ok (.if_icmp .eq 348, 3) := by decide +kernel
theorem d_law_360 : decode b_law 360 = .ok (.aload_n 1, 1) := by decide +kernel
theorem d_law_361 : decode b_law 361 = .ok (.aload_n 0, 1) := by decide +kernel
theorem d_law_362 : decode b_law 362 = .ok (.iload_n 3, 1) := by decide +kernel
theorem d_law_363 : decode b_law 363 = .ok (.iconst 1, 1) := by decide +kernel
theorem d_law_364 : decode b_law 364 = .ok (.iadd, 1) := by decide +kernel
theorem d_law_365 : decode b_law 365 = .ok (.iaload, 1) := by decide +kernel
theorem d_law_366 : decode b_law 366 = .ok (.aload_n 0, 1) := by decide +kernel
theorem d_law_367 : decode b_law 367 = .ok (.iload_n 3, 1) := by decide +kernel
theorem d_law_368 : decode b_law 368 = .ok (.iconst 2, 1) := by decide +kernel
theorem d_law_369 : decode b_law 369 = .ok (.iadd, 1) := by decide +kernel
theorem d_law_370 : decode b_law 370 = .ok (.iaload, 1) := by decide +kernel
theorem d_law_371 : decode b_law 371 = .ok (.invokevirtual 58, 3) := by decide +kernel
theorem d_law_374 : decode b_law 374 = .ok (.aload_n 2, 1) := by decide +kernel
theorem d_law_375 : decode b_law 375 = .ok (.aload_n 0, 1) := by decide +kernel
theorem d_law_376 : decode b_law 376 = .ok (.iload_n 3, 1) := by decide +kernel
theorem d_law_377 : decode b_law 377 = .ok (.iconst 1, 1) := by decide +kernel
theorem d_law_378 : decode b_law 378 = .ok (.iadd, 1) := by decide +kernel
theorem d_law_379 : decode b_law 379 = .ok (.iaload, 1) := by decide +kernel
theorem d_law_380 : decode b_law 380 = .ok (.aload_n 0, 1) := by decide +kernel
theorem d_law_381 : decode b_law 381 = .ok (.iload_n 3, 1) := by decide +kernel
theorem d_law_382 : decode b_law 382 = .ok (.iconst 2, 1) := by decide +kernel
theorem d_law_383 : decode b_law 383 = .ok (.iadd, 1) := by decide +kernel
theorem d_law_384 : decode b_law 384 = .ok (.iaload, 1) := by decide +kernel
theorem d_law_385 : decode b_law 385 = .ok (.invokevirtual 62, 3) := by decide +kernel
theorem d_law_388 : decode b_law 388 = .ok (.if_icmp .eq 315, 3) := by decide +kernel
theorem d_law_393 : decode b_law 393 = .ok (.aload_n 1, 1) := by decide +kernel
theorem d_law_394 : decode b_law 394 = .ok (.invokevirtual 63, 3) := by decide +kernel
theorem d_law_397 : decode b_law 397 = .ok (.aload_n 2, 1) := by decide +kernel
theorem d_law_398 : decode b_law 398 = .ok (.invokevirtual 66, 3) := by decide +kernel
theorem d_law_401 : decode b_law 401 = .ok (.if_icmp .eq 302, 3) := by decide +kernel
theorem d_law_406 : decode b_law 406 = .ok (.aload_n 1, 1) := by decide +kernel
theorem d_law_407 : decode b_law 407 = .ok (.aload_n 0, 1) := by decide +kernel
theorem d_law_408 : decode b_law 408 = .ok (.iload_n 3, 1) := by decide +kernel
theorem d_law_409 : decode b_law 409 = .ok (.iconst 1, 1) := by decide +kernel
theorem d_law_410 : decode b_law 410 = .ok (.iadd, 1) := by decide +kernel
theorem d_law_411 : decode b_law 411 = .ok (.iaload, 1) := by decide +kernel
theorem d_law_412 : decode b_law 412 = .ok (.invokevirtual 67, 3) := by decide +kernel
theorem d_law_415 : decode b_law 415 = .ok (.aload_n 2, 1) := by decide +kernel
theorem d_law_416 : decode b_law 416 = .ok (.aload_n 0, 1) := by decide +kernel
theorem d_law_417 : decode b_law 417 = .ok (.iload_n 3, 1) := by decide +kernel
theorem d_law_418 : decode b_law 418 = .ok (.iconst 1, 1) := by decide +kernel
theorem d_law_419 : decode b_law 419 = .ok (.iadd, 1) := by decide +kernel
theorem d_law_420 : decode b_law 420 = .ok (.iaload, 1) := by decide +kernel
theorem d_law_421 : decode b_law 421 = .ok (.invokevirtual 70, 3) := by decide +kernel
theorem d_law_424 : decode b_law 424 = .ok (.if_icmp .eq 279, 3) := by decide +kernel
theorem d_law_429 : decode b_law 429 = .ok (.aload_n 1, 1) := by decide +kernel
theorem d_law_430 : decode b_law 430 = .ok (.aload_n 0, 1) := by decide +kernel
theorem d_law_431 : decode b_law 431 = .ok (.iload_n 3, 1) := by decide +kernel
theorem d_law_432 : decode b_law 432 = .ok (.iconst 1, 1) := by decide +kernel
theorem d_law_433 : decode b_law 433 = .ok (.iadd, 1) := by decide +kernel
theorem d_law_434 : decode b_law 434 = .ok (.iaload, 1) := by decide +kernel
theorem d_law_435 : decode b_law 435 = .ok (.invokevirtual 71, 3) := by decide +kernel
theorem d_law_438 : decode b_law 438 = .ok (.aload_n 2, 1) := by decide +kernel
theorem d_law_439 : decode b_law 439 = .ok (.aload_n 0, 1) := by decide +kernel
theorem d_law_440 : decode b_law 440 = .ok (.iload_n 3, 1) := by decide +kernel
theorem d_law_441 : decode b_law 441 = .ok (.iconst 1, 1) := by decide +kernel
theorem d_law_442 : decode b_law 442 = .ok (.iadd, 1) := by decide +kernel
theorem d_law_443 : decode b_law 443 = .ok (.iaload, 1) := by decide +kernel
theorem d_law_444 : decode b_law 444 = .ok (.invokevirtual 74, 3) := by decide +kernel
theorem d_law_447 : decode b_law 447 = .ok (.if_icmp .eq 256, 3) := by decide +kernel
theorem d_law_452 : decode b_law 452 = .ok (.aload_n 1, 1) := by decide +kernel
theorem d_law_453 : decode b_law 453 = .ok (.aload_n 0, 1) := by decide +kernel
theorem d_law_454 : decode b_law 454 = .ok (.iload_n 3, 1) := by decide +kernel
theorem d_law_455 : decode b_law 455 = .ok (.iconst 1, 1) := by decide +kernel
theorem d_law_456 : decode b_law 456 = .ok (.iadd, 1) := by decide +kernel
theorem d_law_457 : decode b_law 457 = .ok (.iaload, 1) := by decide +kernel
theorem d_law_458 : decode b_law 458 = .ok (.invokevirtual 75, 3) := by decide +kernel
theorem d_law_461 : decode b_law 461 = .ok (.aload_n 2, 1) := by decide +kernel
theorem d_law_462 : decode b_law 462 = .ok (.aload_n 0, 1) := by decide +kernel
theorem d_law_463 : decode b_law 463 = .ok (.iload_n 3, 1) := by decide +kernel
theorem d_law_464 : decode b_law 464 = .ok (.iconst 1, 1) := by decide +kernel
theorem d_law_465 : decode b_law 465 = .ok (.iadd, 1) := by decide +kernel
theorem d_law_466 : decode b_law 466 = .ok (.iaload, 1) := by decide +kernel
theorem d_law_467 : decode b_law 467 = .ok (.invokevirtual 78, 3) := by decide +kernel
theorem d_law_470 : decode b_law 470 = .ok (.if_icmp .eq 233, 3) := by decide +kernel
theorem d_law_475 : decode b_law 475 = .ok (.aload_n 1, 1) := by decide +kernel
theorem d_law_476 : decode b_law 476 = .ok (.invokevirtual 79, 3) := by decide +kernel
theorem d_law_479 : decode b_law 479 = .ok (.aload_n 2, 1) := by decide +kernel
theorem d_law_480 : decode b_law 480 = .ok (.invokevirtual 82, 3) := by decide +kernel
theorem d_law_483 : decode b_law 483 = .ok (.if_icmp .eq 220, 3) := by decide +kernel
theorem d_law_488 : decode b_law 488 = .ok (.aload_n 1, 1) := by decide +kernel
theorem d_law_489 : decode b_law 489 = .ok (.invokevirtual 83, 3) := by decide +kernel
theorem d_law_492 : decode b_law 492 = .ok (.aload_n 2, 1) := by decide +kernel
theorem d_law_493 : decode b_law 493 = .ok (.invokevirtual 86, 3) := by decide +kernel
theorem d_law_496 : decode b_law 496 = .ok (.if_icmp .eq 207, 3) := by decide +kernel
theorem d_law_501 : decode b_law 501 = .ok (.aload_n 1, 1) := by decide +kernel
theorem d_law_502 : decode b_law 502 = .ok (.aload_n 0, 1) := by decide +kernel
theorem d_law_503 : decode b_law 503 = .ok (.iload_n 3, 1) := by decide +kernel
theorem d_law_504 : decode b_law 504 = .ok (.iconst 1, 1) := by decide +kernel
theorem d_law_505 : decode b_law 505 = .ok (.iadd, 1) := by decide +kernel
theorem d_law_506 : decode b_law 506 = .ok (.iaload, 1) := by decide +kernel
theorem d_law_507 : decode b_law 507 = .ok (.invokevirtual 87, 3) := by decide +kernel
theorem d_law_510 : decode b_law 510 = .ok (.aload_n 2, 1) := by decide +kernel
theorem d_law_511 : decode b_law 511 = .ok (.aload_n 0, 1) := by decide +kernel
theorem d_law_512 : decode b_law 512 = .ok (.iload_n 3, 1) := by decide +kernel
theorem d_law_513 : decode b_law 513 = .ok (.iconst 1, 1) := by decide +kernel
theorem d_law_514 : decode b_law 514 = .ok (.iadd, 1) := by decide +kernel
theorem d_law_515 : decode b_law 515 = .ok (.iaload, 1) := by decide +kernel
theorem d_law_516 : decode b_law 516 = .ok (.invokevirtual 90, 3) := by decide +kernel
theorem d_law_519 : decode b_law 519 = .ok (.if_icmp .eq 184, 3) := by decide +kernel
theorem d_law_524 : decode b_law 524 = .ok (.aload_n 1, 1) := by decide +kernel
theorem d_law_525 : decode b_law 525 = .ok (.aload_n 0, 1) := by decide +kernel
theorem d_law_526 : decode b_law 526 = .ok (.iload_n 3, 1) := by decide +kernel
theorem d_law_527 : decode b_law 527 = .ok (.iconst 1, 1) := by decide +kernel
theorem d_law_528 : decode b_law 528 = .ok (.iadd, 1) := by decide +kernel
theorem d_law_529 : decode b_law 529 = .ok (.iaload, 1) := by decide +kernel
theorem d_law_530 : decode b_law 530 = .ok (.invokevirtual 91, 3) := by decide +kernel
theorem d_law_533 : decode b_law 533 = .ok (.aload_n 2, 1) := by decide +kernel
theorem d_law_534 : decode b_law 534 = .ok (.aload_n 0, 1) := by decide +kernel
theorem d_law_535 : decode b_law 535 = .ok (.iload_n 3, 1) := by decide +kernel
theorem d_law_536 : decode b_law 536 = .ok (.iconst 1, 1) := by decide +kernel
theorem d_law_537 : decode b_law 537 = .ok (.iadd, 1) := by decide +kernel
theorem d_law_538 : decode b_law 538 = .ok (.iaload, 1) := by decide +kernel
theorem d_law_539 : decode b_law 539 = .ok (.invokevirtual 94, 3) := by decide +kernel
theorem d_law_542 : decode b_law 542 = .ok (.if_icmp .eq 161, 3) := by decide +kernel
theorem d_law_547 : decode b_law 547 = .ok (.aload_n 1, 1) := by decide +kernel
theorem d_law_548 : decode b_law 548 = .ok (.aload_n 0, 1) := by decide +kernel
theorem d_law_549 : decode b_law 549 = .ok (.iload_n 3, 1) := by decide +kernel
theorem d_law_550 : decode b_law 550 = .ok (.iconst 1, 1) := by decide +kernel
theorem d_law_551 : decode b_law 551 = .ok (.iadd, 1) := by decide +kernel
theorem d_law_552 : decode b_law 552 = .ok (.iaload, 1) := by decide +kernel
theorem d_law_553 : decode b_law 553 = .ok (.aload_n 0, 1) := by decide +kernel
theorem d_law_554 : decode b_law 554 = .ok (.iload_n 3, 1) := by decide +kernel
theorem d_law_555 : decode b_law 555 = .ok (.iconst 2, 1) := by decide +kernel
theorem d_law_556 : decode b_law 556 = .ok (.iadd, 1) := by decide +kernel
theorem d_law_557 : decode b_law 557 = .ok (.iaload, 1) := by decide +kernel
theorem d_law_558 : decode b_law 558 = .ok (.invokevirtual 95, 3) := by decide +kernel
theorem d_law_561 : decode b_law 561 = .ok (.aload_n 2, 1) := by decide +kernel
theorem d_law_562 : decode b_law 562 = .ok (.aload_n 0, 1) := by decide +kernel
theorem d_law_563 : decode b_law 563 = .ok (.iload_n 3, 1) := by decide +kernel
theorem d_law_564 : decode b_law 564 = .ok (.iconst 1, 1) := by decide +kernel
theorem d_law_565 : decode b_law 565 = .ok (.iadd, 1) := by decide +kernel
theorem d_law_566 : decode b_law 566 = .ok (.iaload, 1) := by decide +kernel
theorem d_law_567 : decode b_law 567 = .ok (.aload_n 0, 1) := by decide +kernel
theorem d_law_568 : decode b_law 568 = .ok (.iload_n 3, 1) := by decide +kernel
theorem d_law_569 : decode b_law 569 = .ok (.iconst 2, 1) := by decide +kernel
theorem d_law_570 : decode b_law 570 = .ok (.iadd, 1) := by decide +kernel
theorem d_law_571 : decode b_law 571 = .ok (.iaload, 1) := by decide +kernel
theorem d_law_572 : decode b_law 572 = .ok (.invokevirtual 98, 3) := by decide +kernel
theorem d_law_575 : decode b_law 575 = .ok (.if_icmp .eq 128, 3) := by decide +kernel
theorem d_law_580 : decode b_law 580 = .ok (.aload_n 1, 1) := by decide +kernel
theorem d_law_581 : decode b_law 581 = .ok (.aload_n 0, 1) := by decide +kernel
theorem d_law_582 : decode b_law 582 = .ok (.iload_n 3, 1) := by decide +kernel
theorem d_law_583 : decode b_law 583 = .ok (.iconst 1, 1) := by decide +kernel
theorem d_law_584 : decode b_law 584 = .ok (.iadd, 1) := by decide +kernel
theorem d_law_585 : decode b_law 585 = .ok (.iaload, 1) := by decide +kernel
theorem d_law_586 : decode b_law 586 = .ok (.aload_n 0, 1) := by decide +kernel
theorem d_law_587 : decode b_law 587 = .ok (.iload_n 3, 1) := by decide +kernel
theorem d_law_588 : decode b_law 588 = .ok (.iconst 2, 1) := by decide +kernel
theorem d_law_589 : decode b_law 589 = .ok (.iadd, 1) := by decide +kernel
theorem d_law_590 : decode b_law 590 = .ok (.iaload, 1) := by decide +kernel
theorem d_law_591 : decode b_law 591 = .ok (.invokevirtual 99, 3) := by decide +kernel
theorem d_law_594 : decode b_law 594 = .ok (.aload_n 2, 1) := by decide +kernel
theorem d_law_595 : decode b_law 595 = .ok (.aload_n 0, 1) := by decide +kernel
theorem d_law_596 : decode b_law 596 = .ok (.iload_n 3, 1) := by decide +kernel
theorem d_law_597 : decode b_law 597 = .ok (.iconst 1, 1) := by decide +kernel
theorem d_law_598 : decode b_law 598 = .ok (.iadd, 1) := by decide +kernel
theorem d_law_599 : decode b_law 599 = .ok (.iaload, 1) := by decide +kernel
theorem d_law_600 : decode b_law 600 = .ok (.aload_n 0, 1) := by decide +kernel
theorem d_law_601 : decode b_law 601 = .ok (.iload_n 3, 1) := by decide +kernel
theorem d_law_602 : decode b_law 602 = .ok (.iconst 2, 1) := by decide +kernel
theorem d_law_603 : decode b_law 603 = .ok (.iadd, 1) := by decide +kernel
theorem d_law_604 : decode b_law 604 = .ok (.iaload, 1) := by decide +kernel
theorem d_law_605 : decode b_law 605 = .ok (.invokevirtual 103, 3) := by decide +kernel
theorem d_law_608 : decode b_law 608 = .ok (.lcmp, 1) := by decide +kernel
theorem d_law_609 : decode b_law 609 = .ok (.ifCond .eq 94, 3) := by decide +kernel
theorem d_law_614 : decode b_law 614 = .ok (.aload_n 1, 1) := by decide +kernel
theorem d_law_615 : decode b_law 615 = .ok (.aload_n 0, 1) := by decide +kernel
theorem d_law_616 : decode b_law 616 = .ok (.iload_n 3, 1) := by decide +kernel
theorem d_law_617 : decode b_law 617 = .ok (.iconst 1, 1) := by decide +kernel
theorem d_law_618 : decode b_law 618 = .ok (.iadd, 1) := by decide +kernel
theorem d_law_619 : decode b_law 619 = .ok (.iaload, 1) := by decide +kernel
theorem d_law_620 : decode b_law 620 = .ok (.aload_n 0, 1) := by decide +kernel
theorem d_law_621 : decode b_law 621 = .ok (.iload_n 3, 1) := by decide +kernel
theorem d_law_622 : decode b_law 622 = .ok (.iconst 2, 1) := by decide +kernel
theorem d_law_623 : decode b_law 623 = .ok (.iadd, 1) := by decide +kernel
theorem d_law_624 : decode b_law 624 = .ok (.iaload, 1) := by decide +kernel
theorem d_law_625 : decode b_law 625 = .ok (.aload_n 0, 1) := by decide +kernel
theorem d_law_626 : decode b_law 626 = .ok (.iload_n 3, 1) := by decide +kernel
theorem d_law_627 : decode b_law 627 = .ok (.iconst 3, 1) := by decide +kernel
theorem d_law_628 : decode b_law 628 = .ok (.iadd, 1) := by decide +kernel
theorem d_law_629 : decode b_law 629 = .ok (.iaload, 1) := by decide +kernel
theorem d_law_630 : decode b_law 630 = .ok (.invokevirtual 104, 3) := by decide +kernel
theorem d_law_633 : decode b_law 633 = .ok (.aload_n 2, 1) := by decide +kernel
theorem d_law_634 : decode b_law 634 = .ok (.aload_n 0, 1) := by decide +kernel
theorem d_law_635 : decode b_law 635 = .ok (.iload_n 3, 1) := by decide +kernel
theorem d_law_636 : decode b_law 636 = .ok (.iconst 1, 1) := by decide +kernel
theorem d_law_637 : decode b_law 637 = .ok (.iadd, 1) := by decide +kernel
theorem d_law_638 : decode b_law 638 = .ok (.iaload, 1) := by decide +kernel
theorem d_law_639 : decode b_law 639 = .ok (.aload_n 0, 1) := by decide +kernel
theorem d_law_640 : decode b_law 640 = .ok (.iload_n 3, 1) := by decide +kernel
theorem d_law_641 : decode b_law 641 = .ok (.iconst 2, 1) := by decide +kernel
theorem d_law_642 : decode b_law 642 = .ok (.iadd, 1) := by decide +kernel
theorem d_law_643 : decode b_law 643 = .ok (.iaload, 1) := by decide +kernel
theorem d_law_644 : decode b_law 644 = .ok (.aload_n 0, 1) := by decide +kernel
theorem d_law_645 : decode b_law 645 = .ok (.iload_n 3, 1) := by decide +kernel
theorem d_law_646 : decode b_law 646 = .ok (.iconst 3, 1) := by decide +kernel
theorem d_law_647 : decode b_law 647 = .ok (.iadd, 1) := by decide +kernel
theorem d_law_648 : decode b_law 648 = .ok (.iaload, 1) := by decide +kernel
theorem d_law_649 : decode b_law 649 = .ok (.invokevirtual 108, 3) := by decide +kernel
theorem d_law_652 : decode b_law 652 = .ok (.if_icmp .eq 51, 3) := by decide +kernel
theorem d_law_657 : decode b_law 657 = .ok (.aload_n 1, 1) := by decide +kernel
theorem d_law_658 : decode b_law 658 = .ok (.aload_n 0, 1) := by decide +kernel
theorem d_law_659 : decode b_law 659 = .ok (.iload_n 3, 1) := by decide +kernel
theorem d_law_660 : decode b_law 660 = .ok (.iconst 1, 1) := by decide +kernel
theorem d_law_661 : decode b_law 661 = .ok (.iadd, 1) := by decide +kernel
theorem d_law_662 : decode b_law 662 = .ok (.iaload, 1) := by decide +kernel
theorem d_law_663 : decode b_law 663 = .ok (.invokevirtual 109, 3) := by decide +kernel
theorem d_law_666 : decode b_law 666 = .ok (.aload_n 2, 1) := by decide +kernel
theorem d_law_667 : decode b_law 667 = .ok (.aload_n 0, 1) := by decide +kernel
theorem d_law_668 : decode b_law 668 = .ok (.iload_n 3, 1) := by decide +kernel
theorem d_law_669 : decode b_law 669 = .ok (.iconst 1, 1) := by decide +kernel
theorem d_law_670 : decode b_law 670 = .ok (.iadd, 1) := by decide +kernel
theorem d_law_671 : decode b_law 671 = .ok (.iaload, 1) := by decide +kernel
theorem d_law_672 : decode b_law 672 = .ok (.invokevirtual 112, 3) := by decide +kernel
theorem d_law_675 : decode b_law 675 = .ok (.if_icmp .eq 28, 3) := by decide +kernel
theorem d_law_680 : decode b_law 680 = .ok (.aload_n 1, 1) := by decide +kernel
theorem d_law_681 : decode b_law 681 = .ok (.aload_n 0, 1) := by decide +kernel
theorem d_law_682 : decode b_law 682 = .ok (.iload_n 3, 1) := by decide +kernel
theorem d_law_683 : decode b_law 683 = .ok (.iconst 1, 1) := by decide +kernel
theorem d_law_684 : decode b_law 684 = .ok (.iadd, 1) := by decide +kernel
theorem d_law_685 : decode b_law 685 = .ok (.iaload, 1) := by decide +kernel
theorem d_law_686 : decode b_law 686 = .ok (.invokevirtual 113, 3) := by decide +kernel
theorem d_law_689 : decode b_law 689 = .ok (.aload_n 2, 1) := by decide +kernel
theorem d_law_690 : decode b_law 690 = .ok (.aload_n 0, 1) := by decide +kernel
theorem d_law_691 : decode b_law 691 = .ok (.iload_n 3, 1) := by decide +kernel
theorem d_law_692 : decode b_law 692 = .ok (.iconst 1, 1) := by decide +kernel
theorem d_law_693 : decode b_law 693 = .ok (.iadd, 1) := by decide +kernel
theorem d_law_694 : decode b_law 694 = .ok (.iaload, 1) := by decide +kernel
theorem d_law_695 : decode b_law 695 = .ok (.invokevirtual 116, 3) := by decide +kernel
theorem d_law_698 : decode b_law 698 = .ok (.if_icmp .eq 5, 3) := by decide +kernel
theorem d_law_0 : decode b_law 0 = .ok (.new 7, 3) := by decide +kernel
theorem d_law_3 : decode b_law 3 = .ok (.dup, 1) := by decide +kernel
theorem d_law_4 : decode b_law 4 = .ok (.invokespecial 9, 3) := by decide +kernel
theorem d_law_7 : decode b_law 7 = .ok (.astore_n 1, 1) := by decide +kernel
theorem d_law_8 : decode b_law 8 = .ok (.new 10, 3) := by decide +kernel
theorem d_law_11 : decode b_law 11 = .ok (.dup, 1) := by decide +kernel
theorem d_law_12 : decode b_law 12 = .ok (.invokespecial 12, 3) := by decide +kernel
theorem d_law_15 : decode b_law 15 = .ok (.astore_n 2, 1) := by decide +kernel
theorem d_law_16 : decode b_law 16 = .ok (.iconst 0, 1) := by decide +kernel
theorem d_law_17 : decode b_law 17 = .ok (.istore_n 3, 1) := by decide +kernel
theorem d_law_27 : decode b_law 27 = .ok (.aload_n 0, 1) := by decide +kernel
theorem d_law_28 : decode b_law 28 = .ok (.iload_n 3, 1) := by decide +kernel
theorem d_law_29 : decode b_law 29 = .ok (.iaload, 1) := by decide +kernel
theorem d_law_30 : decode b_law 30 = .ok (.bipush 31, 2) := by decide +kernel
theorem d_law_32 : decode b_law 32 = .ok (.iand, 1) := by decide +kernel
theorem d_law_33 : decode b_law 33 = .ok (.tableswitch 670 0 23 #[111, 174, 197, 210, 223, 236, 247, 280, 291, 304, 327, 360, 373, 396, 419, 442, 455, 468, 491, 514, 547, 581, 624, 647], 111) := by decide +kernel
theorem at0 (k x y : Int32) : sp_at k 0 x = sp_at k 0 y := by
  unfold sp_at
  by_cases h : k < 0
  · simp [h]
  · simp [h]
theorem up3 {k : Int32} {f g : Nat → Int32} (h : ∀ j, j < 3 → f j = g j) : sp_upto k 2 (f (k : Int32).toNatClampNeg) = sp_upto k 2 (g (k : Int32).toNatClampNeg) := by
  unfold sp_upto
  by_cases h0 : k < 0
  · simp [h0]
  · by_cases h1 : k ≤ 2
    · have hin : vp_in k 3 := in_le h0 h1 (by decide)
      have hlt : k.toNatClampNeg < 3 := Nat.not_le.mp fun q => hin (Or.inr q)
      simp only [h0, h1, if_true, if_false]
      exact h _ hlt
    · simp [h0, h1]
theorem j3 {f g : Nat → Int32} (h0 : f 0 = g 0) (h1 : f 1 = g 1) (h2 : f 2 = g 2) : ∀ j, j < 3 → f j = g j := by
  intro j hj
  rcases (show j = 0 ∨ j = 1 ∨ j = 2 by omega) with e | e | e
  · subst e; exact h0
  · subst e; exact h1
  · subst e; exact h2
section
variable (l : Launch) (dC : Nat → ClassId) (dI : Nat → Nat → Nat) (cI cB cJ cZ : ClassId)
set_option maxHeartbeats 4000000 in
set_option maxRecDepth 100000 in
theorem lb_done {p : Program} {l : Launch} {e : Env} {s : State} {m : MethodId} {below : List Frame} {meth : Method} {c : Code} {b : Nat} {xs : Nat → Int32} {A : Nat → Prop} {dC : Nat → ClassId} {dI : Nat → Nat → Nat} {cI cB cJ cZ : ClassId} (C0 : lw_At p s m meth c b 6 xs) (hA2 : ∀ q, A q → s.heap.size ≤ q) (hbA : ¬ A b) {h1 h2 : Nat} {H : Heap} {locs : List Loc} {ls : Array Slot} (hS : va_S A s.heap H locs) (hl : lv_has ls 4 [(3, .int 0), (2, .ref h2), (1, .ref h1), (0, .ref b)]) : W p l e room_1 s m #[Value.ref b] below meth c H locs 267 1600544 (lw_Z below #[Value.ref b] s) (F0 m 703 ls []) := by
  obtain ⟨hx, hb, hr, hml, hown0, hts, hX, hbl, hlocks, hgv⟩ := id C0
  have hown : s.vm.findClass R_Law = some m.cls := hown0
  have hT : ∀ w ∈ TG, w.before #[Value.ref b] s = true := fun w h => hts w (TG_lw w h)
  have hN : NW s := NW.of hts
  have hSW : SW s := SW.of hts
  refine lv_iinc (v := 6) (lv' := [(3, .int 6), (2, .ref h2), (1, .ref h1), (0, .ref b)]) hx hb d_law_703 hl (k := 0) rfl (by decide) (by decide) rfl (fun ls hl => ?_)
  refine lv_goto (tgt := 18) hx hb d_law_706 (by decide) ?_
  refine lv_iload_n hx hb d_law_18 rfl (lv_at hl 0 rfl) ?_
  refine lv_aload_n hx hb d_law_19 rfl (lv_at hl 3 rfl) ?_
  refine va_slen hx hb hX hbl hbA hS d_law_20 ?_
  refine lv_bipush (v := 6) hx hb d_law_21 (by decide) ?_
  refine lv_isub hx hb d_law_23 ?_
  refine lv_icmp_gt (tgt := 709) hx hb d_law_24 (by decide) (fun c1 => ?_) (fun c1 => absurd (by decide) c1)
  refine lv_iconst (v := 1) hx hb d_law_709 (by decide) ?_
  refine va_forget (fun q hq => hA2 _ (hS.2.2 q hq)) ?_
  refine W.widen (k := 600000) (n := 7302250) (by omega) (by omega) ?_
  exact lw_ret hx hb hr hlocks d_law_710
set_option maxHeartbeats 4000000 in
set_option maxRecDepth 100000 in
/-- the turn of case 0 -/
theorem lb_0 {p : Program} {l : Launch} {e : Env} {s : State} {m : MethodId} {below : List Frame} {meth : Method} {c : Code} {b : Nat} {xs : Nat → Int32} {A : Nat → Prop} {dC : Nat → ClassId} {dI : Nat → Nat → Nat} {cI cB cJ cZ : ClassId} (C0 : lw_At p s m meth c b 6 xs) (hA : ∀ q, s.heap.size ≤ q → A q) (hA2 : ∀ q, A q → s.heap.size ≤ q) (hbA : ¬ A b) (hK : va_K (dC, dI) CL (TY cI cB cJ cZ) s) {h1 h2 xf xa ya : Nat} {XF XS YF : List Value} {fxa fya : Nat → Int32} {H : Heap} {locs : List Loc} {ls : Array Slot} (hP : va_P (dC, dI) CL [(h1, .inr (0, XF)), (xf, .inr (1, XS)), (xa, .inl (cB, 512, .inl fxa)), (h2, .inr (12, YF)), (ya, .inl (cI, 40000, .inl fya))] H) (hD : va_D A [(h1, .inr (0, XF)), (xf, .inr (1, XS)), (xa, .inl (cB, 512, .inl fxa)), (h2, .inr (12, YF)), (ya, .inl (cI, 40000, .inl fya))]) (hS : va_S A s.heap H locs) (hl : lv_has ls 4 [(3, .int 0), (2, .ref h2), (1, .ref h1), (0, .ref b)]) (nXF : XF.length = 15) (gXF_0 : XF[0]? = some (.ref xf)) (nXS : XS.length = 7) (gXS_2 : XS[2]? = some (.int 0)) (gXS_3 : XS[3]? = some (.int 40000)) (gXS_1 : XS[1]? = some (.int 0)) (gXS_0 : XS[0]? = some (.ref xa)) (nYF : YF.length = 167) (gYF_1 : YF[1]? = some (.ref ya)) (gYF_3 : YF[3]? = some (.int 0)) : W p l e room_1 s m #[Value.ref b] below meth c H locs 267 1600544 (lw_Z below #[Value.ref b] s) (F0 m 144 ls []) := by
  obtain ⟨hx, hb, hr, hml, hown0, hts, hX, hbl, hlocks, hgv⟩ := id C0
  have hown : s.vm.findClass R_Law = some m.cls := hown0
  have hT : ∀ w ∈ TG, w.before #[Value.ref b] s = true := fun w h => hts w (TG_lw w h)
  have hN : NW s := NW.of hts
  have hSW : SW s := SW.of hts
  refine lv_aload_n hx hb d_law_144 rfl (lv_at hl 2 rfl) ?_
  refine lv_aload_n hx hb d_law_145 rfl (lv_at hl 3 rfl) ?_
  refine lv_iload_n hx hb d_law_146 rfl (lv_at hl 0 rfl) ?_
  refine lv_iconst (v := 1) hx hb d_law_147 (by decide) ?_
  refine lv_iadd hx hb d_law_148 ?_
  refine va_sld hx hb hX hbl hbA hS (vp_lit (by decide)) d_law_149 ?_
  refine lv_aload_n hx hb d_law_150 rfl (lv_at hl 3 rfl) ?_
  refine lv_iload_n hx hb d_law_151 rfl (lv_at hl 0 rfl) ?_
  refine lv_iconst (v := 2) hx hb d_law_152 (by decide) ?_
  refine lv_iadd hx hb d_law_153 ?_
  refine va_sld hx hb hX hbl hbA hS (vp_lit (by decide)) d_law_154 ?_
  refine lv_aload_n hx hb d_law_155 rfl (lv_at hl 3 rfl) ?_
  refine lv_iload_n hx hb d_law_156 rfl (lv_at hl 0 rfl) ?_
  refine lv_iconst (v := 3) hx hb d_law_157 (by decide) ?_
  refine lv_iadd hx hb d_law_158 ?_
  refine va_sld hx hb hX hbl hbA hS (vp_lit (by decide)) d_law_159 ?_
  refine lv_aload_n hx hb d_law_160 rfl (lv_at hl 3 rfl) ?_
  refine lv_iload_n hx hb d_law_161 rfl (lv_at hl 0 rfl) ?_
  refine lv_iconst (v := 4) hx hb d_law_162 (by decide) ?_
  refine lv_iadd hx hb d_law_163 ?_
  refine va_sld hx hb hX hbl hbA hS (vp_lit (by decide)) d_law_164 ?_
  refine lv_aload_n hx hb d_law_165 rfl (lv_at hl 3 rfl) ?_
  refine lv_iload_n hx hb d_law_166 rfl (lv_at hl 0 rfl) ?_
  refine lv_iconst (v := 5) hx hb d_law_167 (by decide) ?_
  refine lv_iadd hx hb d_law_168 ?_
  refine va_sld hx hb hX hbl hbA hS (vp_lit (by decide)) d_law_169 ?_
  have hPc := hP.sub (ws' := [(h1, .inr (0, XF)), (xf, .inr (1, XS)), (xa, .inl (cB, 512, .inl fxa))]) [0, 1, 2] rfl
  have hDc := hD.sub (ws' := [(h1, .inr (0, XF)), (xf, .inr (1, XS)), (xa, .inl (cB, 512, .inl fxa))]) [0, 1, 2] (by decide) rfl
  have hFc := va_free (wc := [(h1, .inr (0, XF)), (xf, .inr (1, XS)), (xa, .inl (cB, 512, .inl fxa))]) hD hS hA [0, 1, 2] rfl
  refine va_calli (va_runV (C := R_V) (As := [.int (xs ((0 + 1) : Int32).toNatClampNeg), .int (xs ((0 + 2) : Int32).toNatClampNeg), .int (xs ((0 + 3) : Int32).toNatClampNeg), .int (xs ((0 + 4) : Int32).toNatClampNeg), .int (xs ((0 + 5) : Int32).toNatClampNeg)]) (rest := []) ⟨hx, hb, hml, hown, hT⟩ (c_V_feed_fit l dC dI cI cB cJ cZ H.size h1 XF xf XS xa 512 40000 0 fxa (xs ((0 + 1) : Int32).toNatClampNeg) (xs ((0 + 2) : Int32).toNatClampNeg) (xs ((0 + 3) : Int32).toNatClampNeg) (xs ((0 + 4) : Int32).toNatClampNeg) (xs ((0 + 5) : Int32).toNatClampNeg) nXF gXF_0 nXS gXS_2 gXS_3 gXS_1 gXS_0 (by decide) (by decide) (by decide) (by decide)) ⟨callB_of 5 hT (gw_in w_4_44) rfl rfl rfl (hT _ w_1_1) (hT _ w_4_41) (by decide +kernel) ⟨Nat.le_of_ble_eq_true rfl, Nat.le_of_ble_eq_true rfl⟩, hT _ w_4_42, hT _ w_4_43⟩ ⟨PC.blind, va_recv hK hPc (ci := 0) (q0 := 0) rfl rfl, PC.at _ hPc hDc hK hN⟩ rfl rfl hl.1 rfl (lv_room (Nat.le_of_ble_eq_true rfl)) d_law_170 ⟨show _ ≤ 600000 by omega, show _ ≤ 7302250 by omega⟩) hS (fun q _ h => hFc q h) hFc (fun r1 u t H1 locs ht hvm hw hB hz1 hk1 hS => ?_)
  have hw : (1) = r1 := Eq.symm hw
  subst hw
  obtain ⟨hP, hD⟩ := va_join (wr := [(h2, .inr (12, YF)), (ya, .inl (cI, 40000, .inl fya))]) (w1 := []) hP hD [0, 1, 2] [3, 4] rfl rfl (by decide) (by decide) hk1 hFc nilP nilD
  generalize H1 = H at hP hS ⊢
  have hP : va_P (dC, dI) CL [(h2, .inr (12, YF)), (ya, .inl (cI, 40000, .inl fya))] H := hP
  have hD : va_D A [(h2, .inr (12, YF)), (ya, .inl (cI, 40000, .inl fya))] := hD
  refine lv_aload_n hx hb d_law_173 rfl (lv_at hl 1 rfl) ?_
  refine lv_aload_n hx hb d_law_174 rfl (lv_at hl 3 rfl) ?_
  refine lv_iload_n hx hb d_law_175 rfl (lv_at hl 0 rfl) ?_
  refine lv_iconst (v := 1) hx hb d_law_176 (by decide) ?_
  refine lv_iadd hx hb d_law_177 ?_
  refine va_sld hx hb hX hbl hbA hS (vp_lit (by decide)) d_law_178 ?_
  refine lv_aload_n hx hb d_law_179 rfl (lv_at hl 3 rfl) ?_
  refine lv_iload_n hx hb d_law_180 rfl (lv_at hl 0 rfl) ?_
  refine lv_iconst (v := 2) hx hb d_law_181 (by decide) ?_
  refine lv_iadd hx hb d_law_182 ?_
  refine va_sld hx hb hX hbl hbA hS (vp_lit (by decide)) d_law_183 ?_
  refine lv_aload_n hx hb d_law_184 rfl (lv_at hl 3 rfl) ?_
  refine lv_iload_n hx hb d_law_185 rfl (lv_at hl 0 rfl) ?_
  refine lv_iconst (v := 3) hx hb d_law_186 (by decide) ?_
  refine lv_iadd hx hb d_law_187 ?_
  refine va_sld hx hb hX hbl hbA hS (vp_lit (by decide)) d_law_188 ?_
  refine lv_aload_n hx hb d_law_189 rfl (lv_at hl 3 rfl) ?_
  refine lv_iload_n hx hb d_law_190 rfl (lv_at hl 0 rfl) ?_
  refine lv_iconst (v := 4) hx hb d_law_191 (by decide) ?_
  refine lv_iadd hx hb d_law_192 ?_
  refine va_sld hx hb hX hbl hbA hS (vp_lit (by decide)) d_law_193 ?_
  refine lv_aload_n hx hb d_law_194 rfl (lv_at hl 3 rfl) ?_
  refine lv_iload_n hx hb d_law_195 rfl (lv_at hl 0 rfl) ?_
  refine lv_iconst (v := 5) hx hb d_law_196 (by decide) ?_
  refine lv_iadd hx hb d_law_197 ?_
  refine va_sld hx hb hX hbl hbA hS (vp_lit (by decide)) d_law_198 ?_
  have hPc := hP.sub (ws' := [(h2, .inr (12, YF)), (ya, .inl (cI, 40000, .inl fya))]) [0, 1] rfl
  have hDc := hD.sub (ws' := [(h2, .inr (12, YF)), (ya, .inl (cI, 40000, .inl fya))]) [0, 1] (by decide) rfl
  have hFc := va_free (wc := [(h2, .inr (12, YF)), (ya, .inl (cI, 40000, .inl fya))]) hD hS hA [0, 1] rfl
  refine va_calli (va_runV (C := R_Mod) (As := [.int (xs ((0 + 1) : Int32).toNatClampNeg), .int (xs ((0 + 2) : Int32).toNatClampNeg), .int (xs ((0 + 3) : Int32).toNatClampNeg), .int (xs ((0 + 4) : Int32).toNatClampNeg), .int (xs ((0 + 5) : Int32).toNatClampNeg)]) (rest := [.int 1]) ⟨hx, hb, hml, hown, hT⟩ (c_Mod_feed_fit l dC dI cI cB cJ cZ H.size h2 YF ya 0 fya (xs ((0 + 1) : Int32).toNatClampNeg) (xs ((0 + 2) : Int32).toNatClampNeg) (xs ((0 + 3) : Int32).toNatClampNeg) (xs ((0 + 4) : Int32).toNatClampNeg) (xs ((0 + 5) : Int32).toNatClampNeg) nYF gYF_1 gYF_3 (by decide)) ⟨callB_of 5 hT (gw_in w_10_205) rfl rfl rfl (hT _ w_1_15) (hT _ w_10_202) (by decide +kernel) ⟨Nat.le_of_ble_eq_true rfl, Nat.le_of_ble_eq_true rfl⟩, hT _ w_10_203, hT _ w_10_204⟩ ⟨PC.blind, va_recv hK hPc (ci := 12) (q0 := 0) rfl rfl, PC.at _ hPc hDc hK hN⟩ rfl rfl hl.1 rfl (lv_room (Nat.le_of_ble_eq_true rfl)) d_law_199 ⟨show _ ≤ 600000 by omega, show _ ≤ 7302250 by omega⟩) hS (fun q _ h => hFc q h) hFc (fun r2 u t H1 locs ht hvm hw hB hz1 hk1 hS => ?_)
  have hw : (1) = r2 := Eq.symm hw
  subst hw
  obtain ⟨hP, hD⟩ := va_join (wr := []) (w1 := []) hP hD [0, 1] [] rfl rfl (by decide) (by decide) hk1 hFc nilP nilD
  generalize H1 = H at hP hS ⊢
  have hP : va_P (dC, dI) CL [] H := hP
  have hD : va_D A [] := hD
  refine lv_icmp_eq (tgt := 703) hx hb d_law_202 (by decide) (fun c1 => ?_) (fun c1 => by first | exact absurd c1 (by decide) | exact absurd (by decide) c1)
  exact lb_done C0 hA2 hbA hS hl
set_option maxHeartbeats 4000000 in
set_option maxRecDepth 100000 in
/-- the turn of case 1 -/
theorem lb_1 {p : Program} {l : Launch} {e : Env} {s : State} {m : MethodId} {below : List Frame} {meth : Method} {c : Code} {b : Nat} {xs : Nat → Int32} {A : Nat → Prop} {dC : Nat → ClassId} {dI : Nat → Nat → Nat} {cI cB cJ cZ : ClassId} (C0 : lw_At p s m meth c b 6 xs) (hA : ∀ q, s.heap.size ≤ q → A q) (hA2 : ∀ q, A q → s.heap.size ≤ q) (hbA : ¬ A b) (hK : va_K (dC, dI) CL (TY cI cB cJ cZ) s) {h1 h2 xf xi yb ya : Nat} {XF XS XI YF : List Value} {fya fyb : Nat → Int32} {H : Heap} {locs : List Loc} {ls : Array Slot} (hP : va_P (dC, dI) CL [(h1, .inr (0, XF)), (xf, .inr (1, XS)), (xi, .inr (1, XI)), (h2, .inr (12, YF)), (ya, .inl (cI, 40000, .inl fya)), (yb, .inl (cI, 40000, .inl fyb))] H) (hD : va_D A [(h1, .inr (0, XF)), (xf, .inr (1, XS)), (xi, .inr (1, XI)), (h2, .inr (12, YF)), (ya, .inl (cI, 40000, .inl fya)), (yb, .inl (cI, 40000, .inl fyb))]) (hS : va_S A s.heap H locs) (hl : lv_has ls 4 [(3, .int 0), (2, .ref h2), (1, .ref h1), (0, .ref b)]) (nXF : XF.length = 15) (gXF_0 : XF[0]? = some (.ref xf)) (gXF_1 : XF[1]? = some (.ref xi)) (nXS : XS.length = 7) (gXS_1 : XS[1]? = some (.int 0)) (nXI : XI.length = 7) (nYF : YF.length = 167) (gYF_2 : YF[2]? = some (.ref yb)) (gYF_1 : YF[1]? = some (.ref ya)) (gYF_3 : YF[3]? = some (.int 0)) : W p l e room_1 s m #[Value.ref b] below meth c H locs 267 1600544 (lw_Z below #[Value.ref b] s) (F0 m 207 ls []) := by
  obtain ⟨hx, hb, hr, hml, hown0, hts, hX, hbl, hlocks, hgv⟩ := id C0
  have hown : s.vm.findClass R_Law = some m.cls := hown0
  have hT : ∀ w ∈ TG, w.before #[Value.ref b] s = true := fun w h => hts w (TG_lw w h)
  have hN : NW s := NW.of hts
  have hSW : SW s := SW.of hts
  refine lv_aload_n hx hb d_law_207 rfl (lv_at hl 2 rfl) ?_
  refine lv_aload_n hx hb d_law_208 rfl (lv_at hl 3 rfl) ?_
  refine lv_iload_n hx hb d_law_209 rfl (lv_at hl 0 rfl) ?_
  refine lv_iconst (v := 1) hx hb d_law_210 (by decide) ?_
  refine lv_iadd hx hb d_law_211 ?_
  refine va_sld hx hb hX hbl hbA hS (vp_lit (by decide)) d_law_212 ?_
  have hPc := hP.sub (ws' := [(h1, .inr (0, XF)), (xf, .inr (1, XS)), (xi, .inr (1, XI))]) [0, 1, 2] rfl
  have hDc := hD.sub (ws' := [(h1, .inr (0, XF)), (xf, .inr (1, XS)), (xi, .inr (1, XI))]) [0, 1, 2] (by decide) rfl
  have hFc := va_free (wc := [(h1, .inr (0, XF)), (xf, .inr (1, XS)), (xi, .inr (1, XI))]) hD hS hA [0, 1, 2] rfl
  refine va_calli (va_runV (C := R_V) (As := [.int (xs ((0 + 1) : Int32).toNatClampNeg)]) (rest := []) ⟨hx, hb, hml, hown, hT⟩ (c_V_end l dC dI cI cB cJ cZ H.size h1 XF xf XS xi XI (xs ((0 + 1) : Int32).toNatClampNeg) 0 nXF gXF_0 gXF_1 nXS gXS_1 nXI) ⟨callB_of 1 hT (gw_in w_4_77) rfl rfl rfl (hT _ w_1_1) (hT _ w_4_74) (by decide +kernel) ⟨Nat.le_of_ble_eq_true rfl, Nat.le_of_ble_eq_true rfl⟩, hT _ w_4_75, hT _ w_4_76⟩ ⟨PC.blind, va_recv hK hPc (ci := 0) (q0 := 0) rfl rfl, PC.at _ hPc hDc hK hN⟩ rfl rfl hl.1 rfl (lv_room (Nat.le_of_ble_eq_true rfl)) d_law_213 ⟨show _ ≤ 600000 by omega, show _ ≤ 7302250 by omega⟩) hS (fun q _ h => hFc q h) hFc (fun r1 u t H1 locs ht hvm hw hB hz1 hk1 hS => ?_)
  have hw : (if ¬ (xs ((0 + 1) : Int32).toNatClampNeg) < 0 ∧ (xs ((0 + 1) : Int32).toNatClampNeg) ≤ 0 then 1 else 0) = r1 := Eq.symm hw
  subst hw
  obtain ⟨hP, hD⟩ := va_join (wr := [(h2, .inr (12, YF)), (ya, .inl (cI, 40000, .inl fya)), (yb, .inl (cI, 40000, .inl fyb))]) (w1 := []) hP hD [0, 1, 2] [3, 4, 5] rfl rfl (by decide) (by decide) hk1 hFc nilP nilD
  generalize H1 = H at hP hS ⊢
  have hP : va_P (dC, dI) CL [(h2, .inr (12, YF)), (ya, .inl (cI, 40000, .inl fya)), (yb, .inl (cI, 40000, .inl fyb))] H := hP
  have hD : va_D A [(h2, .inr (12, YF)), (ya, .inl (cI, 40000, .inl fya)), (yb, .inl (cI, 40000, .inl fyb))] := hD
  refine lv_aload_n hx hb d_law_216 rfl (lv_at hl 1 rfl) ?_
  refine lv_aload_n hx hb d_law_217 rfl (lv_at hl 3 rfl) ?_
  refine lv_iload_n hx hb d_law_218 rfl (lv_at hl 0 rfl) ?_
  refine lv_iconst (v := 1) hx hb d_law_219 (by decide) ?_
  refine lv_iadd hx hb d_law_220 ?_
  refine va_sld hx hb hX hbl hbA hS (vp_lit (by decide)) d_law_221 ?_
  have hPc := hP.sub (ws' := [(h2, .inr (12, YF)), (ya, .inl (cI, 40000, .inl fya)), (yb, .inl (cI, 40000, .inl fyb))]) [0, 1, 2] rfl
  have hDc := hD.sub (ws' := [(h2, .inr (12, YF)), (ya, .inl (cI, 40000, .inl fya)), (yb, .inl (cI, 40000, .inl fyb))]) [0, 1, 2] (by decide) rfl
  have hFc := va_free (wc := [(h2, .inr (12, YF)), (ya, .inl (cI, 40000, .inl fya)), (yb, .inl (cI, 40000, .inl fyb))]) hD hS hA [0, 1, 2] rfl
  refine va_calli (va_runV (C := R_Mod) (As := [.int (xs ((0 + 1) : Int32).toNatClampNeg)]) (rest := [.int (if ¬ (xs ((0 + 1) : Int32).toNatClampNeg) < 0 ∧ (xs ((0 + 1) : Int32).toNatClampNeg) ≤ 0 then 1 else 0)]) ⟨hx, hb, hml, hown, hT⟩ (c_Mod_end l dC dI cI cB cJ cZ H.size h2 YF ya yb fya fyb (xs ((0 + 1) : Int32).toNatClampNeg) 0 (by decide) nYF gYF_2 gYF_1 gYF_3) ⟨callB_of 1 hT (gw_in w_10_209) rfl rfl rfl (hT _ w_1_15) (hT _ w_10_206) (by decide +kernel) ⟨Nat.le_of_ble_eq_true rfl, Nat.le_of_ble_eq_true rfl⟩, hT _ w_10_207, hT _ w_10_208⟩ ⟨PC.blind, va_recv hK hPc (ci := 12) (q0 := 0) rfl rfl, PC.at _ hPc hDc hK hN⟩ rfl rfl hl.1 rfl (lv_room (Nat.le_of_ble_eq_true rfl)) d_law_222 ⟨show _ ≤ 600000 by omega, show _ ≤ 7302250 by omega⟩) hS (fun q _ h => hFc q h) hFc (fun r2 u t H1 locs ht hvm hw hB hz1 hk1 hS => ?_)
  have hw : (if ¬ (xs ((0 + 1) : Int32).toNatClampNeg) < 0 ∧ (xs ((0 + 1) : Int32).toNatClampNeg) ≤ 0 then 1 else 0) = r2 := Eq.symm hw
  subst hw
  obtain ⟨hP, hD⟩ := va_join (wr := []) (w1 := []) hP hD [0, 1, 2] [] rfl rfl (by decide) (by decide) hk1 hFc nilP nilD
  generalize H1 = H at hP hS ⊢
  have hP : va_P (dC, dI) CL [] H := hP
  have hD : va_D A [] := hD
  refine lv_icmp_eq (tgt := 703) hx hb d_law_225 (by decide) (fun c1 => ?_) (fun c1 => absurd rfl c1)
  exact lb_done C0 hA2 hbA hS hl
set_option maxHeartbeats 4000000 in
set_option maxRecDepth 100000 in
/-- the turn of case 2 -/
theorem lb_2 {p : Program} {l : Launch} {e : Env} {s : State} {m : MethodId} {below : List Frame} {meth : Method} {c : Code} {b : Nat} {xs : Nat → Int32} {A : Nat → Prop} {dC : Nat → ClassId} {dI : Nat → Nat → Nat} {cI cB cJ cZ : ClassId} (C0 : lw_At p s m meth c b 6 xs) (hA : ∀ q, s.heap.size ≤ q → A q) (hA2 : ∀ q, A q → s.heap.size ≤ q) (hbA : ¬ A b) (hK : va_K (dC, dI) CL (TY cI cB cJ cZ) s) {h1 h2 xf0 xc0 xv0 xy ya yb : Nat} {XF XS XC XVv YF : List Value} {fxy fya fyb : Nat → Int32} {H : Heap} {locs : List Loc} {ls : Array Slot} (hP : va_P (dC, dI) CL [(h1, .inr (0, XF)), (xf0, .inr (1, XS)), (xc0, .inr (2, XC)), (xv0, .inr (3, XVv)), (xy, .inl (cB, 512, .inl fxy)), (h2, .inr (12, YF)), (ya, .inl (cI, 3, .inl fya)), (yb, .inl (cI, 3, .inl fyb))] H) (hD : va_D A [(h1, .inr (0, XF)), (xf0, .inr (1, XS)), (xc0, .inr (2, XC)), (xv0, .inr (3, XVv)), (xy, .inl (cB, 512, .inl fxy)), (h2, .inr (12, YF)), (ya, .inl (cI, 3, .inl fya)), (yb, .inl (cI, 3, .inl fyb))]) (hS : va_S A s.heap H locs) (hl : lv_has ls 4 [(3, .int 0), (2, .ref h2), (1, .ref h1), (0, .ref b)]) (nXF : XF.length = 15) (gXF_1 : XF[1]? = some (.ref xf0)) (gXF_3 : XF[3]? = some (.ref xc0)) (gXF_5 : XF[5]? = some (.ref xv0)) (nXS : XS.length = 7) (gXS_1 : XS[1]? = some (.int 0)) (gXS_0 : XS[0]? = some (.ref xy)) (nXC : XC.length = 8) (nXVv : XVv.length = 13) (nYF : YF.length = 167) (gYF_4 : YF[4]? = some (.int 0)) (gYF_11 : YF[11]? = some (.ref ya)) (gYF_12 : YF[12]? = some (.ref yb)) : W p l e room_1 s m #[Value.ref b] below meth c H locs 267 1600544 (lw_Z below #[Value.ref b] s) (F0 m 230 ls []) := by
  obtain ⟨hx, hb, hr, hml, hown0, hts, hX, hbl, hlocks, hgv⟩ := id C0
  have hown : s.vm.findClass R_Law = some m.cls := hown0
  have hT : ∀ w ∈ TG, w.before #[Value.ref b] s = true := fun w h => hts w (TG_lw w h)
  have hN : NW s := NW.of hts
  have hSW : SW s := SW.of hts
  refine lv_aload_n hx hb d_law_230 rfl (lv_at hl 2 rfl) ?_
  have hPc := hP.sub (ws' := [(h1, .inr (0, XF)), (xf0, .inr (1, XS)), (xc0, .inr (2, XC)), (xv0, .inr (3, XVv)), (xy, .inl (cB, 512, .inl fxy))]) [0, 1, 2, 3, 4] rfl
  have hDc := hD.sub (ws' := [(h1, .inr (0, XF)), (xf0, .inr (1, XS)), (xc0, .inr (2, XC)), (xv0, .inr (3, XVv)), (xy, .inl (cB, 512, .inl fxy))]) [0, 1, 2, 3, 4] (by decide) rfl
  have hFc := va_free (wc := [(h1, .inr (0, XF)), (xf0, .inr (1, XS)), (xc0, .inr (2, XC)), (xv0, .inr (3, XVv)), (xy, .inl (cB, 512, .inl fxy))]) hD hS hA [0, 1, 2, 3, 4] rfl
  refine va_calli (va_runV (C := R_V) (As := []) (rest := []) ⟨hx, hb, hml, hown, hT⟩ (c_V_schema_none l dC dI cI cB cJ cZ H.size h1 XF xf0 XS xc0 XC xv0 XVv xy 512 fxy nXF gXF_1 gXF_3 gXF_5 nXS gXS_1 gXS_0 nXC nXVv (by decide)) ⟨callB_of 0 hT (gw_in w_4_85) rfl rfl rfl (hT _ w_1_1) (hT _ w_4_82) (by decide +kernel) ⟨Nat.le_of_ble_eq_true rfl, Nat.le_of_ble_eq_true rfl⟩, hT _ w_4_83, hT _ w_4_84⟩ ⟨PS.blind, va_recv hK hPc (ci := 0) (q0 := 0) rfl rfl, PS.at _ hPc hDc hK hN hSW⟩ rfl rfl hl.1 rfl (lv_room (Nat.le_of_ble_eq_true rfl)) d_law_231 ⟨show _ ≤ 600000 by omega, show _ ≤ 7302250 by omega⟩) hS (fun q _ h => hFc q h) hFc (fun r1 u t H1 locs ht hvm hw hB hz1 hk1 hS => ?_)
  have hw : (0) = r1 := Eq.symm hw
  subst hw
  obtain ⟨hP, hD⟩ := va_join (wr := [(h2, .inr (12, YF)), (ya, .inl (cI, 3, .inl fya)), (yb, .inl (cI, 3, .inl fyb))]) (w1 := []) hP hD [0, 1, 2, 3, 4] [5, 6, 7] rfl rfl (by decide) (by decide) hk1 hFc nilP nilD
  generalize H1 = H at hP hS ⊢
  have hP : va_P (dC, dI) CL [(h2, .inr (12, YF)), (ya, .inl (cI, 3, .inl fya)), (yb, .inl (cI, 3, .inl fyb))] H := hP
  have hD : va_D A [(h2, .inr (12, YF)), (ya, .inl (cI, 3, .inl fya)), (yb, .inl (cI, 3, .inl fyb))] := hD
  refine lv_aload_n hx hb d_law_234 rfl (lv_at hl 1 rfl) ?_
  have hPc := hP.sub (ws' := [(h2, .inr (12, YF)), (ya, .inl (cI, 3, .inl fya)), (yb, .inl (cI, 3, .inl fyb))]) [0, 1, 2] rfl
  have hDc := hD.sub (ws' := [(h2, .inr (12, YF)), (ya, .inl (cI, 3, .inl fya)), (yb, .inl (cI, 3, .inl fyb))]) [0, 1, 2] (by decide) rfl
  have hFc := va_free (wc := [(h2, .inr (12, YF)), (ya, .inl (cI, 3, .inl fya)), (yb, .inl (cI, 3, .inl fyb))]) hD hS hA [0, 1, 2] rfl
  refine va_calli (va_runV (C := R_Mod) (As := []) (rest := [.int 0]) ⟨hx, hb, hml, hown, hT⟩ (c_Mod_schema_none l dC dI cI cB cJ cZ H.size h2 YF ya yb fya fyb nYF gYF_4 gYF_11 gYF_12) ⟨callB_of 0 hT (gw_in w_10_213) rfl rfl rfl (hT _ w_1_15) (hT _ w_10_210) (by decide +kernel) ⟨Nat.le_of_ble_eq_true rfl, Nat.le_of_ble_eq_true rfl⟩, hT _ w_10_211, hT _ w_10_212⟩ ⟨PC.blind, va_recv hK hPc (ci := 12) (q0 := 0) rfl rfl, PC.at _ hPc hDc hK hN⟩ rfl rfl hl.1 rfl (lv_room (Nat.le_of_ble_eq_true rfl)) d_law_235 ⟨show _ ≤ 600000 by omega, show _ ≤ 7302250 by omega⟩) hS (fun q _ h => hFc q h) hFc (fun r2 u t H1 locs ht hvm hw hB hz1 hk1 hS => ?_)
  have hw : (0) = r2 := Eq.symm hw
  subst hw
  obtain ⟨hP, hD⟩ := va_join (wr := []) (w1 := []) hP hD [0, 1, 2] [] rfl rfl (by decide) (by decide) hk1 hFc nilP nilD
  generalize H1 = H at hP hS ⊢
  have hP : va_P (dC, dI) CL [] H := hP
  have hD : va_D A [] := hD
  refine lv_icmp_eq (tgt := 703) hx hb d_law_238 (by decide) (fun c1 => ?_) (fun c1 => by first | exact absurd c1 (by decide) | exact absurd (by decide) c1)
  exact lb_done C0 hA2 hbA hS hl
set_option maxHeartbeats 4000000 in
set_option maxRecDepth 100000 in
/-- the turn of case 3 -/
theorem lb_3 {p : Program} {l : Launch} {e : Env} {s : State} {m : MethodId} {below : List Frame} {meth : Method} {c : Code} {b : Nat} {xs : Nat → Int32} {A : Nat → Prop} {dC : Nat → ClassId} {dI : Nat → Nat → Nat} {cI cB cJ cZ : ClassId} (C0 : lw_At p s m meth c b 6 xs) (hA : ∀ q, s.heap.size ≤ q → A q) (hA2 : ∀ q, A q → s.heap.size ≤ q) (hbA : ¬ A b) (hK : va_K (dC, dI) CL (TY cI cB cJ cZ) s) {h1 h2 xf xc0 : Nat} {XF XS XC YF : List Value} {H : Heap} {locs : List Loc} {ls : Array Slot} (hP : va_P (dC, dI) CL [(h1, .inr (0, XF)), (xf, .inr (1, XS)), (xc0, .inr (3, XC)), (h2, .inr (12, YF))] H) (hD : va_D A [(h1, .inr (0, XF)), (xf, .inr (1, XS)), (xc0, .inr (3, XC)), (h2, .inr (12, YF))]) (hS : va_S A s.heap H locs) (hl : lv_has ls 4 [(3, .int 0), (2, .ref h2), (1, .ref h1), (0, .ref b)]) (nXF : XF.length = 15) (gXF_1 : XF[1]? = some (.ref xf)) (gXF_4 : XF[4]? = some (.ref xc0)) (nXS : XS.length = 7) (gXS_1 : XS[1]? = some (.int 0)) (nXC : XC.length = 13) (gXC_0 : XC[0]? = some (.int 0)) (nYF : YF.length = 167) (gYF_4 : YF[4]? = some (.int 0)) (gYF_14 : YF[14]? = some (.int 0)) : W p l e room_1 s m #[Value.ref b] below meth c H locs 267 1600544 (lw_Z below #[Value.ref b] s) (F0 m 243 ls []) := by
  obtain ⟨hx, hb, hr, hml, hown0, hts, hX, hbl, hlocks, hgv⟩ := id C0
  have hown : s.vm.findClass R_Law = some m.cls := hown0
  have hT : ∀ w ∈ TG, w.before #[Value.ref b] s = true := fun w h => hts w (TG_lw w h)
  have hN : NW s := NW.of hts
  have hSW : SW s := SW.of hts
  refine lv_aload_n hx hb d_law_243 rfl (lv_at hl 2 rfl) ?_
  have hPc := hP.sub (ws' := [(h1, .inr (0, XF)), (xf, .inr (1, XS)), (xc0, .inr (3, XC))]) [0, 1, 2] rfl
  have hDc := hD.sub (ws' := [(h1, .inr (0, XF)), (xf, .inr (1, XS)), (xc0, .inr (3, XC))]) [0, 1, 2] (by decide) rfl
  have hFc := va_free (wc := [(h1, .inr (0, XF)), (xf, .inr (1, XS)), (xc0, .inr (3, XC))]) hD hS hA [0, 1, 2] rfl
  refine va_calli (va_runV (C := R_V) (As := []) (rest := []) ⟨hx, hb, hml, hown, hT⟩ (c_V_record_none l dC dI cI cB cJ cZ H.size h1 XF xf XS xc0 XC 0 nXF gXF_1 gXF_4 nXS gXS_1 nXC gXC_0) ⟨callB_of 0 hT (gw_in w_5_18) rfl rfl rfl (hT _ w_1_1) (hT _ w_5_15) (by decide +kernel) ⟨Nat.le_of_ble_eq_true rfl, Nat.le_of_ble_eq_true rfl⟩, hT _ w_5_16, hT _ w_5_17⟩ ⟨PC.blind, va_recv hK hPc (ci := 0) (q0 := 0) rfl rfl, PC.at _ hPc hDc hK hN⟩ rfl rfl hl.1 rfl (lv_room (Nat.le_of_ble_eq_true rfl)) d_law_244 ⟨show _ ≤ 600000 by omega, show _ ≤ 7302250 by omega⟩) hS (fun q _ h => hFc q h) hFc (fun r1 u t H1 locs ht hvm hw hB hz1 hk1 hS => ?_)
  have hw : ((-2)) = r1 := Eq.symm hw
  subst hw
  obtain ⟨hP, hD⟩ := va_join (wr := [(h2, .inr (12, YF))]) (w1 := []) hP hD [0, 1, 2] [3] rfl rfl (by decide) (by decide) hk1 hFc nilP nilD
  generalize H1 = H at hP hS ⊢
  have hP : va_P (dC, dI) CL [(h2, .inr (12, YF))] H := hP
  have hD : va_D A [(h2, .inr (12, YF))] := hD
  refine lv_aload_n hx hb d_law_247 rfl (lv_at hl 1 rfl) ?_
  have hPc := hP.sub (ws' := [(h2, .inr (12, YF))]) [0] rfl
  have hDc := hD.sub (ws' := [(h2, .inr (12, YF))]) [0] (by decide) rfl
  have hFc := va_free (wc := [(h2, .inr (12, YF))]) hD hS hA [0] rfl
  refine va_calli (va_runV (C := R_Mod) (As := []) (rest := [.int (-2)]) ⟨hx, hb, hml, hown, hT⟩ (c_Mod_record_none l dC dI cI cB cJ cZ H.size h2 YF 0 nYF gYF_4 gYF_14) ⟨callB_of 0 hT (gw_in w_11_62) rfl rfl rfl (hT _ w_1_15) (hT _ w_11_59) (by decide +kernel) ⟨Nat.le_of_ble_eq_true rfl, Nat.le_of_ble_eq_true rfl⟩, hT _ w_11_60, hT _ w_11_61⟩ ⟨PC.blind, va_recv hK hPc (ci := 12) (q0 := 0) rfl rfl, PC.at _ hPc hDc hK hN⟩ rfl rfl hl.1 rfl (lv_room (Nat.le_of_ble_eq_true rfl)) d_law_248 ⟨show _ ≤ 600000 by omega, show _ ≤ 7302250 by omega⟩) hS (fun q _ h => hFc q h) hFc (fun r2 u t H1 locs ht hvm hw hB hz1 hk1 hS => ?_)
  have hw : ((-2)) = r2 := Eq.symm hw
  subst hw
  obtain ⟨hP, hD⟩ := va_join (wr := []) (w1 := []) hP hD [0] [] rfl rfl (by decide) (by decide) hk1 hFc nilP nilD
  generalize H1 = H at hP hS ⊢
  have hP : va_P (dC, dI) CL [] H := hP
  have hD : va_D A [] := hD
  refine lv_icmp_eq (tgt := 703) hx hb d_law_251 (by decide) (fun c1 => ?_) (fun c1 => by first | exact absurd c1 (by decide) | exact absurd (by decide) c1)
  exact lb_done C0 hA2 hbA hS hl
set_option maxHeartbeats 4000000 in
set_option maxRecDepth 100000 in
/-- the turn of case 4 -/
theorem lb_4 {p : Program} {l : Launch} {e : Env} {s : State} {m : MethodId} {below : List Frame} {meth : Method} {c : Code} {b : Nat} {xs : Nat → Int32} {A : Nat → Prop} {dC : Nat → ClassId} {dI : Nat → Nat → Nat} {cI cB cJ cZ : ClassId} (C0 : lw_At p s m meth c b 6 xs) (hA : ∀ q, s.heap.size ≤ q → A q) (hA2 : ∀ q, A q → s.heap.size ≤ q) (hbA : ¬ A b) (hK : va_K (dC, dI) CL (TY cI cB cJ cZ) s) {h1 h2 xf : Nat} {XF XS YF : List Value} {H : Heap} {locs : List Loc} {ls : Array Slot} (hP : va_P (dC, dI) CL [(h1, .inr (0, XF)), (xf, .inr (4, XS)), (h2, .inr (12, YF))] H) (hD : va_D A [(h1, .inr (0, XF)), (xf, .inr (4, XS)), (h2, .inr (12, YF))]) (hS : va_S A s.heap H locs) (hl : lv_has ls 4 [(3, .int 0), (2, .ref h2), (1, .ref h1), (0, .ref b)]) (nXF : XF.length = 15) (gXF_6 : XF[6]? = some (.ref xf)) (nXS : XS.length = 15) (gXS_0 : XS[0]? = some (.int 0)) (nYF : YF.length = 167) (gYF_34 : YF[34]? = some (.int 0)) : W p l e room_1 s m #[Value.ref b] below meth c H locs 267 1600544 (lw_Z below #[Value.ref b] s) (F0 m 256 ls []) := by
  obtain ⟨hx, hb, hr, hml, hown0, hts, hX, hbl, hlocks, hgv⟩ := id C0
  have hown : s.vm.findClass R_Law = some m.cls := hown0
  have hT : ∀ w ∈ TG, w.before #[Value.ref b] s = true := fun w h => hts w (TG_lw w h)
  have hN : NW s := NW.of hts
  have hSW : SW s := SW.of hts
  refine lv_aload_n hx hb d_law_256 rfl (lv_at hl 2 rfl) ?_
  have hPc := hP.sub (ws' := [(h1, .inr (0, XF)), (xf, .inr (4, XS))]) [0, 1] rfl
  have hDc := hD.sub (ws' := [(h1, .inr (0, XF)), (xf, .inr (4, XS))]) [0, 1] (by decide) rfl
  have hFc := va_free (wc := [(h1, .inr (0, XF)), (xf, .inr (4, XS))]) hD hS hA [0, 1] rfl
  refine va_calli (va_runV (C := R_V) (As := []) (rest := []) ⟨hx, hb, hml, hown, hT⟩ (c_V_records l dC dI cI cB cJ cZ H.size h1 XF xf XS 0 nXF gXF_6 nXS gXS_0) ⟨callB_of 0 hT (gw_in w_5_118) rfl rfl rfl (hT _ w_1_1) (hT _ w_5_115) (by decide +kernel) ⟨Nat.le_of_ble_eq_true rfl, Nat.le_of_ble_eq_true rfl⟩, hT _ w_5_116, hT _ w_5_117⟩ ⟨PC.blind, va_recv hK hPc (ci := 0) (q0 := 0) rfl rfl, PC.at _ hPc hDc hK hN⟩ rfl rfl hl.1 rfl (lv_room (Nat.le_of_ble_eq_true rfl)) d_law_257 ⟨show _ ≤ 600000 by omega, show _ ≤ 7302250 by omega⟩) hS (fun q _ h => hFc q h) hFc (fun r1 u t H1 locs ht hvm hw hB hz1 hk1 hS => ?_)
  have hw : (0) = r1 := Eq.symm hw
  subst hw
  obtain ⟨hP, hD⟩ := va_join (wr := [(h2, .inr (12, YF))]) (w1 := []) hP hD [0, 1] [2] rfl rfl (by decide) (by decide) hk1 hFc nilP nilD
  generalize H1 = H at hP hS ⊢
  have hP : va_P (dC, dI) CL [(h2, .inr (12, YF))] H := hP
  have hD : va_D A [(h2, .inr (12, YF))] := hD
  refine lv_aload_n hx hb d_law_260 rfl (lv_at hl 1 rfl) ?_
  have hPc := hP.sub (ws' := [(h2, .inr (12, YF))]) [0] rfl
  have hDc := hD.sub (ws' := [(h2, .inr (12, YF))]) [0] (by decide) rfl
  have hFc := va_free (wc := [(h2, .inr (12, YF))]) hD hS hA [0] rfl
  refine va_calli (va_runV (C := R_Mod) (As := []) (rest := [.int 0]) ⟨hx, hb, hml, hown, hT⟩ (c_Mod_records l dC dI cI cB cJ cZ H.size h2 YF 0 nYF gYF_34) ⟨callB_of 0 hT (gw_in w_11_126) rfl rfl rfl (hT _ w_1_15) (hT _ w_11_123) (by decide +kernel) ⟨Nat.le_of_ble_eq_true rfl, Nat.le_of_ble_eq_true rfl⟩, hT _ w_11_124, hT _ w_11_125⟩ ⟨PC.blind, va_recv hK hPc (ci := 12) (q0 := 0) rfl rfl, PC.at _ hPc hDc hK hN⟩ rfl rfl hl.1 rfl (lv_room (Nat.le_of_ble_eq_true rfl)) d_law_261 ⟨show _ ≤ 600000 by omega, show _ ≤ 7302250 by omega⟩) hS (fun q _ h => hFc q h) hFc (fun r2 u t H1 locs ht hvm hw hB hz1 hk1 hS => ?_)
  have hw : (0) = r2 := Eq.symm hw
  subst hw
  obtain ⟨hP, hD⟩ := va_join (wr := []) (w1 := []) hP hD [0] [] rfl rfl (by decide) (by decide) hk1 hFc nilP nilD
  generalize H1 = H at hP hS ⊢
  have hP : va_P (dC, dI) CL [] H := hP
  have hD : va_D A [] := hD
  refine lv_icmp_eq (tgt := 703) hx hb d_law_264 (by decide) (fun c1 => ?_) (fun c1 => by first | exact absurd c1 (by decide) | exact absurd (by decide) c1)
  exact lb_done C0 hA2 hbA hS hl
set_option maxHeartbeats 4000000 in
set_option maxRecDepth 100000 in
/-- the turn of case 5 -/
theorem lb_5 {p : Program} {l : Launch} {e : Env} {s : State} {m : MethodId} {below : List Frame} {meth : Method} {c : Code} {b : Nat} {xs : Nat → Int32} {A : Nat → Prop} {dC : Nat → ClassId} {dI : Nat → Nat → Nat} {cI cB cJ cZ : ClassId} (C0 : lw_At p s m meth c b 6 xs) (hA : ∀ q, s.heap.size ≤ q → A q) (hA2 : ∀ q, A q → s.heap.size ≤ q) (hbA : ¬ A b) (hK : va_K (dC, dI) CL (TY cI cB cJ cZ) s) {h1 h2 xf xa xb ya : Nat} {XF XS YF : List Value} {fya : Nat → Int32} {H : Heap} {locs : List Loc} {ls : Array Slot} (hP : va_P (dC, dI) CL [(h1, .inr (0, XF)), (xf, .inr (4, XS)), (xa, .inl (cI, 64, .inl (fun _ => (-1)))), (xb, .inl (cI, 64, .inl (fun _ => (-1)))), (h2, .inr (12, YF)), (ya, .inl (cI, 2001, .inl fya))] H) (hD : va_D A [(h1, .inr (0, XF)), (xf, .inr (4, XS)), (xa, .inl (cI, 64, .inl (fun _ => (-1)))), (xb, .inl (cI, 64, .inl (fun _ => (-1)))), (h2, .inr (12, YF)), (ya, .inl (cI, 2001, .inl fya))]) (hS : va_S A s.heap H locs) (hl : lv_has ls 4 [(3, .int 0), (2, .ref h2), (1, .ref h1), (0, .ref b)]) (nXF : XF.length = 15) (gXF_6 : XF[6]? = some (.ref xf)) (nXS : XS.length = 15) (gXS_10 : XS[10]? = some (.ref xa)) (gXS_11 : XS[11]? = some (.ref xb)) (nYF : YF.length = 167) (gYF_31 : YF[31]? = some (.ref ya)) : W p l e room_1 s m #[Value.ref b] below meth c H locs 267 1600544 (lw_Z below #[Value.ref b] s) (F0 m 269 ls []) := by
  obtain ⟨hx, hb, hr, hml, hown0, hts, hX, hbl, hlocks, hgv⟩ := id C0
  have hown : s.vm.findClass R_Law = some m.cls := hown0
  have hT : ∀ w ∈ TG, w.before #[Value.ref b] s = true := fun w h => hts w (TG_lw w h)
  have hN : NW s := NW.of hts
  have hSW : SW s := SW.of hts
  refine lv_aload_n hx hb d_law_269 rfl (lv_at hl 2 rfl) ?_
  have hPc := hP.sub (ws' := [(h1, .inr (0, XF)), (xf, .inr (4, XS)), (xa, .inl (cI, 64, .inl (fun _ => (-1)))), (xb, .inl (cI, 64, .inl (fun _ => (-1))))]) [0, 1, 2, 3] rfl
  have hDc := hD.sub (ws' := [(h1, .inr (0, XF)), (xf, .inr (4, XS)), (xa, .inl (cI, 64, .inl (fun _ => (-1)))), (xb, .inl (cI, 64, .inl (fun _ => (-1))))]) [0, 1, 2, 3] (by decide) rfl
  have hFc := va_free (wc := [(h1, .inr (0, XF)), (xf, .inr (4, XS)), (xa, .inl (cI, 64, .inl (fun _ => (-1)))), (xb, .inl (cI, 64, .inl (fun _ => (-1))))]) hD hS hA [0, 1, 2, 3] rfl
  refine va_callv (va_runV (C := R_V) (As := []) (rest := []) ⟨hx, hb, hml, hown, hT⟩ (c_V_clear l dC dI cI cB cJ cZ H.size h1 XF xf XS xa xb (fun _ => (-1)) (fun _ => (-1)) nXF gXF_6 nXS gXS_10 gXS_11) ⟨callB_of 0 hT (gw_in w_5_122) rfl rfl rfl (hT _ w_1_1) (hT _ w_5_119) (by decide +kernel) ⟨Nat.le_of_ble_eq_true rfl, Nat.le_of_ble_eq_true rfl⟩, hT _ w_5_120, hT _ w_5_121⟩ ⟨PC.blind, va_recv hK hPc (ci := 0) (q0 := 0) rfl rfl, PC.at _ hPc hDc hK hN⟩ rfl rfl hl.1 rfl (lv_room (Nat.le_of_ble_eq_true rfl)) d_law_270 ⟨show _ ≤ 600000 by omega, show _ ≤ 7302250 by omega⟩) hS (fun q _ h => hFc q h) hFc (fun  u t H1 locs ht hvm hw hB hz1 hk1 hS => ?_)
  obtain ⟨hP, hD⟩ := va_join (wr := [(h2, .inr (12, YF)), (ya, .inl (cI, 2001, .inl fya))]) (w1 := []) hP hD [0, 1, 2, 3] [4, 5] rfl rfl (by decide) (by decide) hk1 hFc nilP nilD
  generalize H1 = H at hP hS ⊢
  have hP : va_P (dC, dI) CL [(h2, .inr (12, YF)), (ya, .inl (cI, 2001, .inl fya))] H := hP
  have hD : va_D A [(h2, .inr (12, YF)), (ya, .inl (cI, 2001, .inl fya))] := hD
  refine lv_aload_n hx hb d_law_273 rfl (lv_at hl 1 rfl) ?_
  have hPc := hP.sub (ws' := [(h2, .inr (12, YF)), (ya, .inl (cI, 2001, .inl fya))]) [0, 1] rfl
  have hDc := hD.sub (ws' := [(h2, .inr (12, YF)), (ya, .inl (cI, 2001, .inl fya))]) [0, 1] (by decide) rfl
  have hFc := va_free (wc := [(h2, .inr (12, YF)), (ya, .inl (cI, 2001, .inl fya))]) hD hS hA [0, 1] rfl
  refine va_callv (va_runV (C := R_Mod) (As := []) (rest := []) ⟨hx, hb, hml, hown, hT⟩ (c_Mod_clear l dC dI cI cB cJ cZ H.size h2 YF ya fya nYF gYF_31) ⟨callB_of 0 hT (gw_in w_11_130) rfl rfl rfl (hT _ w_1_15) (hT _ w_11_127) (by decide +kernel) ⟨Nat.le_of_ble_eq_true rfl, Nat.le_of_ble_eq_true rfl⟩, hT _ w_11_128, hT _ w_11_129⟩ ⟨PC.blind, va_recv hK hPc (ci := 12) (q0 := 0) rfl rfl, PC.at _ hPc hDc hK hN⟩ rfl rfl hl.1 rfl (lv_room (Nat.le_of_ble_eq_true rfl)) d_law_274 ⟨show _ ≤ 600000 by omega, show _ ≤ 7302250 by omega⟩) hS (fun q _ h => hFc q h) hFc (fun  u t H1 locs ht hvm hw hB hz1 hk1 hS => ?_)
  obtain ⟨hP, hD⟩ := va_join (wr := []) (w1 := []) hP hD [0, 1] [] rfl rfl (by decide) (by decide) hk1 hFc nilP nilD
  generalize H1 = H at hP hS ⊢
  have hP : va_P (dC, dI) CL [] H := hP
  have hD : va_D A [] := hD
  refine lv_goto (tgt := 703) hx hb d_law_277 (by decide) ?_
  exact lb_done C0 hA2 hbA hS hl
set_option maxHeartbeats 4000000 in
set_option maxRecDepth 100000 in
/-- the turn of case 6 -/
theorem lb_6 {p : Program} {l : Launch} {e : Env} {s : State} {m : MethodId} {below : List Frame} {meth : Method} {c : Code} {b : Nat} {xs : Nat → Int32} {A : Nat → Prop} {dC : Nat → ClassId} {dI : Nat → Nat → Nat} {cI cB cJ cZ : ClassId} (C0 : lw_At p s m meth c b 6 xs) (hA : ∀ q, s.heap.size ≤ q → A q) (hA2 : ∀ q, A q → s.heap.size ≤ q) (hbA : ¬ A b) (hK : va_K (dC, dI) CL (TY cI cB cJ cZ) s) {h1 h2 xc0 : Nat} {XF XC YF : List Value} {H : Heap} {locs : List Loc} {ls : Array Slot} (hP : va_P (dC, dI) CL [(h1, .inr (0, XF)), (xc0, .inr (3, XC)), (h2, .inr (12, YF))] H) (hD : va_D A [(h1, .inr (0, XF)), (xc0, .inr (3, XC)), (h2, .inr (12, YF))]) (hS : va_S A s.heap H locs) (hl : lv_has ls 4 [(3, .int 0), (2, .ref h2), (1, .ref h1), (0, .ref b)]) (nXF : XF.length = 15) (gXF_4 : XF[4]? = some (.ref xc0)) (nXC : XC.length = 13) (gXC_0 : XC[0]? = some (.int 0)) (nYF : YF.length = 167) (gYF_14 : YF[14]? = some (.int 0)) : W p l e room_1 s m #[Value.ref b] below meth c H locs 267 1600544 (lw_Z below #[Value.ref b] s) (F0 m 280 ls []) := by
  obtain ⟨hx, hb, hr, hml, hown0, hts, hX, hbl, hlocks, hgv⟩ := id C0
  have hown : s.vm.findClass R_Law = some m.cls := hown0
  have hT : ∀ w ∈ TG, w.before #[Value.ref b] s = true := fun w h => hts w (TG_lw w h)
  have hN : NW s := NW.of hts
  have hSW : SW s := SW.of hts
  refine lv_aload_n hx hb d_law_280 rfl (lv_at hl 2 rfl) ?_
  refine lv_aload_n hx hb d_law_281 rfl (lv_at hl 3 rfl) ?_
  refine lv_iload_n hx hb d_law_282 rfl (lv_at hl 0 rfl) ?_
  refine lv_iconst (v := 1) hx hb d_law_283 (by decide) ?_
  refine lv_iadd hx hb d_law_284 ?_
  refine va_sld hx hb hX hbl hbA hS (vp_lit (by decide)) d_law_285 ?_
  refine lv_aload_n hx hb d_law_286 rfl (lv_at hl 3 rfl) ?_
  refine lv_iload_n hx hb d_law_287 rfl (lv_at hl 0 rfl) ?_
  refine lv_iconst (v := 2) hx hb d_law_288 (by decide) ?_
  refine lv_iadd hx hb d_law_289 ?_
  refine va_sld hx hb hX hbl hbA hS (vp_lit (by decide)) d_law_290 ?_
  have hPc := hP.sub (ws' := [(h1, .inr (0, XF)), (xc0, .inr (3, XC))]) [0, 1] rfl
  have hDc := hD.sub (ws' := [(h1, .inr (0, XF)), (xc0, .inr (3, XC))]) [0, 1] (by decide) rfl
  have hFc := va_free (wc := [(h1, .inr (0, XF)), (xc0, .inr (3, XC))]) hD hS hA [0, 1] rfl
  refine va_calli (va_runV (C := R_V) (As := [.int (xs ((0 + 1) : Int32).toNatClampNeg), .int (xs ((0 + 2) : Int32).toNatClampNeg)]) (rest := []) ⟨hx, hb, hml, hown, hT⟩ (c_V_write_none l dC dI cI cB cJ cZ H.size h1 XF xc0 XC (xs ((0 + 1) : Int32).toNatClampNeg) (xs ((0 + 2) : Int32).toNatClampNeg) nXF gXF_4 nXC gXC_0) ⟨callB_of 2 hT (gw_in w_5_126) rfl rfl rfl (hT _ w_1_1) (hT _ w_5_123) (by decide +kernel) ⟨Nat.le_of_ble_eq_true rfl, Nat.le_of_ble_eq_true rfl⟩, hT _ w_5_124, hT _ w_5_125⟩ ⟨PC.blind, va_recv hK hPc (ci := 0) (q0 := 0) rfl rfl, PC.at _ hPc hDc hK hN⟩ rfl rfl hl.1 rfl (lv_room (Nat.le_of_ble_eq_true rfl)) d_law_291 ⟨show _ ≤ 600000 by omega, show _ ≤ 7302250 by omega⟩) hS (fun q _ h => hFc q h) hFc (fun r1 u t H1 locs ht hvm hw hB hz1 hk1 hS => ?_)
  have hw : ((-1)) = r1 := Eq.symm hw
  subst hw
  obtain ⟨hP, hD⟩ := va_join (wr := [(h2, .inr (12, YF))]) (w1 := []) hP hD [0, 1] [2] rfl rfl (by decide) (by decide) hk1 hFc nilP nilD
  generalize H1 = H at hP hS ⊢
  have hP : va_P (dC, dI) CL [(h2, .inr (12, YF))] H := hP
  have hD : va_D A [(h2, .inr (12, YF))] := hD
  refine lv_aload_n hx hb d_law_294 rfl (lv_at hl 1 rfl) ?_
  refine lv_aload_n hx hb d_law_295 rfl (lv_at hl 3 rfl) ?_
  refine lv_iload_n hx hb d_law_296 rfl (lv_at hl 0 rfl) ?_
  refine lv_iconst (v := 1) hx hb d_law_297 (by decide) ?_
  refine lv_iadd hx hb d_law_298 ?_
  refine va_sld hx hb hX hbl hbA hS (vp_lit (by decide)) d_law_299 ?_
  refine lv_aload_n hx hb d_law_300 rfl (lv_at hl 3 rfl) ?_
  refine lv_iload_n hx hb d_law_301 rfl (lv_at hl 0 rfl) ?_
  refine lv_iconst (v := 2) hx hb d_law_302 (by decide) ?_
  refine lv_iadd hx hb d_law_303 ?_
  refine va_sld hx hb hX hbl hbA hS (vp_lit (by decide)) d_law_304 ?_
  have hPc := hP.sub (ws' := [(h2, .inr (12, YF))]) [0] rfl
  have hDc := hD.sub (ws' := [(h2, .inr (12, YF))]) [0] (by decide) rfl
  have hFc := va_free (wc := [(h2, .inr (12, YF))]) hD hS hA [0] rfl
  refine va_calli (va_runV (C := R_Mod) (As := [.int (xs ((0 + 1) : Int32).toNatClampNeg), .int (xs ((0 + 2) : Int32).toNatClampNeg)]) (rest := [.int (-1)]) ⟨hx, hb, hml, hown, hT⟩ (c_Mod_write_none l dC dI cI cB cJ cZ H.size h2 YF (xs ((0 + 1) : Int32).toNatClampNeg) (xs ((0 + 2) : Int32).toNatClampNeg) nYF gYF_14) ⟨callB_of 2 hT (gw_in w_11_134) rfl rfl rfl (hT _ w_1_15) (hT _ w_11_131) (by decide +kernel) ⟨Nat.le_of_ble_eq_true rfl, Nat.le_of_ble_eq_true rfl⟩, hT _ w_11_132, hT _ w_11_133⟩ ⟨PC.blind, va_recv hK hPc (ci := 12) (q0 := 0) rfl rfl, PC.at _ hPc hDc hK hN⟩ rfl rfl hl.1 rfl (lv_room (Nat.le_of_ble_eq_true rfl)) d_law_305 ⟨show _ ≤ 600000 by omega, show _ ≤ 7302250 by omega⟩) hS (fun q _ h => hFc q h) hFc (fun r2 u t H1 locs ht hvm hw hB hz1 hk1 hS => ?_)
  have hw : ((-1)) = r2 := Eq.symm hw
  subst hw
  obtain ⟨hP, hD⟩ := va_join (wr := []) (w1 := []) hP hD [0] [] rfl rfl (by decide) (by decide) hk1 hFc nilP nilD
  generalize H1 = H at hP hS ⊢
  have hP : va_P (dC, dI) CL [] H := hP
  have hD : va_D A [] := hD
  refine lv_icmp_eq (tgt := 703) hx hb d_law_308 (by decide) (fun c1 => ?_) (fun c1 => by first | exact absurd c1 (by decide) | exact absurd (by decide) c1)
  exact lb_done C0 hA2 hbA hS hl
set_option maxHeartbeats 4000000 in
set_option maxRecDepth 100000 in
/-- the turn of case 7 -/
theorem lb_7 {p : Program} {l : Launch} {e : Env} {s : State} {m : MethodId} {below : List Frame} {meth : Method} {c : Code} {b : Nat} {xs : Nat → Int32} {A : Nat → Prop} {dC : Nat → ClassId} {dI : Nat → Nat → Nat} {cI cB cJ cZ : ClassId} (C0 : lw_At p s m meth c b 6 xs) (hA : ∀ q, s.heap.size ≤ q → A q) (hA2 : ∀ q, A q → s.heap.size ≤ q) (hbA : ¬ A b) (hK : va_K (dC, dI) CL (TY cI cB cJ cZ) s) {h1 h2 xf xi yb ya : Nat} {XF XS YF : List Value} {fya fyb : Nat → Int32} {H : Heap} {locs : List Loc} {ls : Array Slot} (hP : va_P (dC, dI) CL [(h1, .inr (0, XF)), (xf, .inr (1, XS)), (h2, .inr (12, YF)), (ya, .inl (cI, 40000, .inl fya)), (yb, .inl (cI, 40000, .inl fyb))] H) (hD : va_D A [(h1, .inr (0, XF)), (xf, .inr (1, XS)), (h2, .inr (12, YF)), (ya, .inl (cI, 40000, .inl fya)), (yb, .inl (cI, 40000, .inl fyb))]) (hS : va_S A s.heap H locs) (hl : lv_has ls 4 [(3, .int 0), (2, .ref h2), (1, .ref h1), (0, .ref b)]) (nXF : XF.length = 15) (gXF_2 : XF[2]? = some (.ref xf)) (gXF_1 : XF[1]? = some (.ref xi)) (nXS : XS.length = 7) (nYF : YF.length = 167) (gYF_62 : YF[62]? = some (.ref yb)) (gYF_2 : YF[2]? = some (.ref ya)) (gYF_4 : YF[4]? = some (.int 0)) : W p l e room_1 s m #[Value.ref b] below meth c H locs 267 1600544 (lw_Z below #[Value.ref b] s) (F0 m 313 ls []) := by
  obtain ⟨hx, hb, hr, hml, hown0, hts, hX, hbl, hlocks, hgv⟩ := id C0
  have hown : s.vm.findClass R_Law = some m.cls := hown0
  have hT : ∀ w ∈ TG, w.before #[Value.ref b] s = true := fun w h => hts w (TG_lw w h)
  have hN : NW s := NW.of hts
  have hSW : SW s := SW.of hts
  refine lv_aload_n hx hb d_law_313 rfl (lv_at hl 2 rfl) ?_
  have hPc := hP.sub (ws' := [(h1, .inr (0, XF)), (xf, .inr (1, XS))]) [0, 1] rfl
  have hDc := hD.sub (ws' := [(h1, .inr (0, XF)), (xf, .inr (1, XS))]) [0, 1] (by decide) rfl
  have hFc := va_free (wc := [(h1, .inr (0, XF)), (xf, .inr (1, XS))]) hD hS hA [0, 1] rfl
  refine va_callv (va_runV (C := R_V) (As := []) (rest := []) ⟨hx, hb, hml, hown, hT⟩ (c_V_take l dC dI cI cB cJ cZ H.size h1 XF xf XS xi nXF gXF_2 gXF_1 nXS) ⟨callB_of 0 hT (gw_in w_6_57) rfl rfl rfl (hT _ w_1_1) (hT _ w_6_54) (by decide +kernel) ⟨Nat.le_of_ble_eq_true rfl, Nat.le_of_ble_eq_true rfl⟩, hT _ w_6_55, hT _ w_6_56⟩ ⟨PC.blind, va_recv hK hPc (ci := 0) (q0 := 0) rfl rfl, PC.at _ hPc hDc hK hN⟩ rfl rfl hl.1 rfl (lv_room (Nat.le_of_ble_eq_true rfl)) d_law_314 ⟨show _ ≤ 600000 by omega, show _ ≤ 7302250 by omega⟩) hS (fun q _ h => hFc q h) hFc (fun  u t H1 locs ht hvm hw hB hz1 hk1 hS => ?_)
  obtain ⟨hP, hD⟩ := va_join (wr := [(h2, .inr (12, YF)), (ya, .inl (cI, 40000, .inl fya)), (yb, .inl (cI, 40000, .inl fyb))]) (w1 := []) hP hD [0, 1] [2, 3, 4] rfl rfl (by decide) (by decide) hk1 hFc nilP nilD
  generalize H1 = H at hP hS ⊢
  have hP : va_P (dC, dI) CL [(h2, .inr (12, YF)), (ya, .inl (cI, 40000, .inl fya)), (yb, .inl (cI, 40000, .inl fyb))] H := hP
  have hD : va_D A [(h2, .inr (12, YF)), (ya, .inl (cI, 40000, .inl fya)), (yb, .inl (cI, 40000, .inl fyb))] := hD
  refine lv_aload_n hx hb d_law_317 rfl (lv_at hl 1 rfl) ?_
  have hPc := hP.sub (ws' := [(h2, .inr (12, YF)), (ya, .inl (cI, 40000, .inl fya)), (yb, .inl (cI, 40000, .inl fyb))]) [0, 1, 2] rfl
  have hDc := hD.sub (ws' := [(h2, .inr (12, YF)), (ya, .inl (cI, 40000, .inl fya)), (yb, .inl (cI, 40000, .inl fyb))]) [0, 1, 2] (by decide) rfl
  have hFc := va_free (wc := [(h2, .inr (12, YF)), (ya, .inl (cI, 40000, .inl fya)), (yb, .inl (cI, 40000, .inl fyb))]) hD hS hA [0, 1, 2] rfl
  refine va_callv (va_runV (C := R_Mod) (As := []) (rest := []) ⟨hx, hb, hml, hown, hT⟩ (c_Mod_take l dC dI cI cB cJ cZ H.size h2 YF ya yb 0 fya fyb (by decide) (by decide) nYF gYF_62 gYF_2 gYF_4) ⟨callB_of 0 hT (gw_in w_12_83) rfl rfl rfl (hT _ w_1_15) (hT _ w_12_80) (by decide +kernel) ⟨Nat.le_of_ble_eq_true rfl, Nat.le_of_ble_eq_true rfl⟩, hT _ w_12_81, hT _ w_12_82⟩ ⟨PC.blind, va_recv hK hPc (ci := 12) (q0 := 0) rfl rfl, PC.at _ hPc hDc hK hN⟩ rfl rfl hl.1 rfl (lv_room (Nat.le_of_ble_eq_true rfl)) d_law_318 ⟨show _ ≤ 600000 by omega, show _ ≤ 7302250 by omega⟩) hS (fun q _ h => hFc q h) hFc (fun  u t H1 locs ht hvm hw hB hz1 hk1 hS => ?_)
  obtain ⟨hP, hD⟩ := va_join (wr := []) (w1 := []) hP hD [0, 1, 2] [] rfl rfl (by decide) (by decide) hk1 hFc nilP nilD
  generalize H1 = H at hP hS ⊢
  have hP : va_P (dC, dI) CL [] H := hP
  have hD : va_D A [] := hD
  refine lv_goto (tgt := 703) hx hb d_law_321 (by decide) ?_
  exact lb_done C0 hA2 hbA hS hl
set_option maxHeartbeats 4000000 in
set_option maxRecDepth 100000 in
/-- the turn of case 8 -/
theorem lb_8 {p : Program} {l : Launch} {e : Env} {s : State} {m : MethodId} {below : List Frame} {meth : Method} {c : Code} {b : Nat} {xs : Nat → Int32} {A : Nat → Prop} {dC : Nat → ClassId} {dI : Nat → Nat → Nat} {cI cB cJ cZ : ClassId} (C0 : lw_At p s m meth c b 6 xs) (hA : ∀ q, s.heap.size ≤ q → A q) (hA2 : ∀ q, A q → s.heap.size ≤ q) (hbA : ¬ A b) (hK : va_K (dC, dI) CL (TY cI cB cJ cZ) s) {h1 h2 xf : Nat} {XF XS YF : List Value} {H : Heap} {locs : List Loc} {ls : Array Slot} (hP : va_P (dC, dI) CL [(h1, .inr (0, XF)), (xf, .inr (1, XS)), (h2, .inr (12, YF))] H) (hD : va_D A [(h1, .inr (0, XF)), (xf, .inr (1, XS)), (h2, .inr (12, YF))]) (hS : va_S A s.heap H locs) (hl : lv_has ls 4 [(3, .int 0), (2, .ref h2), (1, .ref h1), (0, .ref b)]) (nXF : XF.length = 15) (gXF_2 : XF[2]? = some (.ref xf)) (nXS : XS.length = 7) (gXS_1 : XS[1]? = some (.int 0)) (nYF : YF.length = 167) (gYF_65 : YF[65]? = some (.int 0)) : W p l e room_1 s m #[Value.ref b] below meth c H locs 267 1600544 (lw_Z below #[Value.ref b] s) (F0 m 324 ls []) := by
  obtain ⟨hx, hb, hr, hml, hown0, hts, hX, hbl, hlocks, hgv⟩ := id C0
  have hown : s.vm.findClass R_Law = some m.cls := hown0
  have hT : ∀ w ∈ TG, w.before #[Value.ref b] s = true := fun w h => hts w (TG_lw w h)
  have hN : NW s := NW.of hts
  have hSW : SW s := SW.of hts
  refine lv_aload_n hx hb d_law_324 rfl (lv_at hl 2 rfl) ?_
  have hPc := hP.sub (ws' := [(h1, .inr (0, XF)), (xf, .inr (1, XS))]) [0, 1] rfl
  have hDc := hD.sub (ws' := [(h1, .inr (0, XF)), (xf, .inr (1, XS))]) [0, 1] (by decide) rfl
  have hFc := va_free (wc := [(h1, .inr (0, XF)), (xf, .inr (1, XS))]) hD hS hA [0, 1] rfl
  refine va_calli (va_runV (C := R_V) (As := []) (rest := []) ⟨hx, hb, hml, hown, hT⟩ (c_V_size l dC dI cI cB cJ cZ H.size h1 XF xf XS 0 nXF gXF_2 nXS gXS_1) ⟨callB_of 0 hT (gw_in w_6_61) rfl rfl rfl (hT _ w_1_1) (hT _ w_6_58) (by decide +kernel) ⟨Nat.le_of_ble_eq_true rfl, Nat.le_of_ble_eq_true rfl⟩, hT _ w_6_59, hT _ w_6_60⟩ ⟨PC.blind, va_recv hK hPc (ci := 0) (q0 := 0) rfl rfl, PC.at _ hPc hDc hK hN⟩ rfl rfl hl.1 rfl (lv_room (Nat.le_of_ble_eq_true rfl)) d_law_325 ⟨show _ ≤ 600000 by omega, show _ ≤ 7302250 by omega⟩) hS (fun q _ h => hFc q h) hFc (fun r1 u t H1 locs ht hvm hw hB hz1 hk1 hS => ?_)
  have hw : (0) = r1 := Eq.symm hw
  subst hw
  obtain ⟨hP, hD⟩ := va_join (wr := [(h2, .inr (12, YF))]) (w1 := []) hP hD [0, 1] [2] rfl rfl (by decide) (by decide) hk1 hFc nilP nilD
  generalize H1 = H at hP hS ⊢
  have hP : va_P (dC, dI) CL [(h2, .inr (12, YF))] H := hP
  have hD : va_D A [(h2, .inr (12, YF))] := hD
  refine lv_aload_n hx hb d_law_328 rfl (lv_at hl 1 rfl) ?_
  have hPc := hP.sub (ws' := [(h2, .inr (12, YF))]) [0] rfl
  have hDc := hD.sub (ws' := [(h2, .inr (12, YF))]) [0] (by decide) rfl
  have hFc := va_free (wc := [(h2, .inr (12, YF))]) hD hS hA [0] rfl
  refine va_calli (va_runV (C := R_Mod) (As := []) (rest := [.int 0]) ⟨hx, hb, hml, hown, hT⟩ (c_Mod_size l dC dI cI cB cJ cZ H.size h2 YF 0 nYF gYF_65) ⟨callB_of 0 hT (gw_in w_12_87) rfl rfl rfl (hT _ w_1_15) (hT _ w_12_84) (by decide +kernel) ⟨Nat.le_of_ble_eq_true rfl, Nat.le_of_ble_eq_true rfl⟩, hT _ w_12_85, hT _ w_12_86⟩ ⟨PC.blind, va_recv hK hPc (ci := 12) (q0 := 0) rfl rfl, PC.at _ hPc hDc hK hN⟩ rfl rfl hl.1 rfl (lv_room (Nat.le_of_ble_eq_true rfl)) d_law_329 ⟨show _ ≤ 600000 by omega, show _ ≤ 7302250 by omega⟩) hS (fun q _ h => hFc q h) hFc (fun r2 u t H1 locs ht hvm hw hB hz1 hk1 hS => ?_)
  have hw : (0) = r2 := Eq.symm hw
  subst hw
  obtain ⟨hP, hD⟩ := va_join (wr := []) (w1 := []) hP hD [0] [] rfl rfl (by decide) (by decide) hk1 hFc nilP nilD
  generalize H1 = H at hP hS ⊢
  have hP : va_P (dC, dI) CL [] H := hP
  have hD : va_D A [] := hD
  refine lv_icmp_eq (tgt := 703) hx hb d_law_332 (by decide) (fun c1 => ?_) (fun c1 => by first | exact absurd c1 (by decide) | exact absurd (by decide) c1)
  exact lb_done C0 hA2 hbA hS hl
set_option maxHeartbeats 4000000 in
set_option maxRecDepth 100000 in
/-- the turn of case 9 -/
theorem lb_9 {p : Program} {l : Launch} {e : Env} {s : State} {m : MethodId} {below : List Frame} {meth : Method} {c : Code} {b : Nat} {xs : Nat → Int32} {A : Nat → Prop} {dC : Nat → ClassId} {dI : Nat → Nat → Nat} {cI cB cJ cZ : ClassId} (C0 : lw_At p s m meth c b 6 xs) (hA : ∀ q, s.heap.size ≤ q → A q) (hA2 : ∀ q, A q → s.heap.size ≤ q) (hbA : ¬ A b) (hK : va_K (dC, dI) CL (TY cI cB cJ cZ) s) {h1 h2 xf xa ya : Nat} {XF XS YF : List Value} {fxa fya : Nat → Int32} {H : Heap} {locs : List Loc} {ls : Array Slot} (hP : va_P (dC, dI) CL [(h1, .inr (0, XF)), (xf, .inr (1, XS)), (xa, .inl (cB, 512, .inl fxa)), (h2, .inr (12, YF)), (ya, .inl (cI, 40000, .inl fya))] H) (hD : va_D A [(h1, .inr (0, XF)), (xf, .inr (1, XS)), (xa, .inl (cB, 512, .inl fxa)), (h2, .inr (12, YF)), (ya, .inl (cI, 40000, .inl fya))]) (hS : va_S A s.heap H locs) (hl : lv_has ls 4 [(3, .int 0), (2, .ref h2), (1, .ref h1), (0, .ref b)]) (nXF : XF.length = 15) (gXF_2 : XF[2]? = some (.ref xf)) (nXS : XS.length = 7) (gXS_1 : XS[1]? = some (.int 0)) (gXS_0 : XS[0]? = some (.ref xa)) (nYF : YF.length = 167) (gYF_65 : YF[65]? = some (.int 0)) (gYF_62 : YF[62]? = some (.ref ya)) : W p l e room_1 s m #[Value.ref b] below meth c H locs 267 1600544 (lw_Z below #[Value.ref b] s) (F0 m 337 ls []) := by
  obtain ⟨hx, hb, hr, hml, hown0, hts, hX, hbl, hlocks, hgv⟩ := id C0
  have hown : s.vm.findClass R_Law = some m.cls := hown0
  have hT : ∀ w ∈ TG, w.before #[Value.ref b] s = true := fun w h => hts w (TG_lw w h)
  have hN : NW s := NW.of hts
  have hSW : SW s := SW.of hts
  refine lv_aload_n hx hb d_law_337 rfl (lv_at hl 2 rfl) ?_
  refine lv_aload_n hx hb d_law_338 rfl (lv_at hl 3 rfl) ?_
  refine lv_iload_n hx hb d_law_339 rfl (lv_at hl 0 rfl) ?_
  refine lv_iconst (v := 1) hx hb d_law_340 (by decide) ?_
  refine lv_iadd hx hb d_law_341 ?_
  refine va_sld hx hb hX hbl hbA hS (vp_lit (by decide)) d_law_342 ?_
  have hPc := hP.sub (ws' := [(h1, .inr (0, XF)), (xf, .inr (1, XS)), (xa, .inl (cB, 512, .inl fxa))]) [0, 1, 2] rfl
  have hDc := hD.sub (ws' := [(h1, .inr (0, XF)), (xf, .inr (1, XS)), (xa, .inl (cB, 512, .inl fxa))]) [0, 1, 2] (by decide) rfl
  have hFc := va_free (wc := [(h1, .inr (0, XF)), (xf, .inr (1, XS)), (xa, .inl (cB, 512, .inl fxa))]) hD hS hA [0, 1, 2] rfl
  refine va_calli (va_runV (C := R_V) (As := [.int (xs ((0 + 1) : Int32).toNatClampNeg)]) (rest := []) ⟨hx, hb, hml, hown, hT⟩ (c_V_byteOf l dC dI cI cB cJ cZ H.size h1 XF xf XS xa 512 fxa (xs ((0 + 1) : Int32).toNatClampNeg) 0 nXF gXF_2 nXS gXS_1 gXS_0 (by decide)) ⟨callB_of 1 hT (gw_in w_6_65) rfl rfl rfl (hT _ w_1_1) (hT _ w_6_62) (by decide +kernel) ⟨Nat.le_of_ble_eq_true rfl, Nat.le_of_ble_eq_true rfl⟩, hT _ w_6_63, hT _ w_6_64⟩ ⟨PC.blind, va_recv hK hPc (ci := 0) (q0 := 0) rfl rfl, PC.at _ hPc hDc hK hN⟩ rfl rfl hl.1 rfl (lv_room (Nat.le_of_ble_eq_true rfl)) d_law_343 ⟨show _ ≤ 600000 by omega, show _ ≤ 7302250 by omega⟩) hS (fun q _ h => hFc q h) hFc (fun r1 u t H1 locs ht hvm hw hB hz1 hk1 hS => ?_)
  have hw : (sp_at (xs ((0 + 1) : Int32).toNatClampNeg) 0 (fxa (xs ((0 + 1) : Int32).toNatClampNeg).toNatClampNeg &&& 255)) = r1 := Eq.symm hw
  subst hw
  obtain ⟨hP, hD⟩ := va_join (wr := [(h2, .inr (12, YF)), (ya, .inl (cI, 40000, .inl fya))]) (w1 := []) hP hD [0, 1, 2] [3, 4] rfl rfl (by decide) (by decide) hk1 hFc nilP nilD
  generalize H1 = H at hP hS ⊢
  have hP : va_P (dC, dI) CL [(h2, .inr (12, YF)), (ya, .inl (cI, 40000, .inl fya))] H := hP
  have hD : va_D A [(h2, .inr (12, YF)), (ya, .inl (cI, 40000, .inl fya))] := hD
  refine lv_aload_n hx hb d_law_346 rfl (lv_at hl 1 rfl) ?_
  refine lv_aload_n hx hb d_law_347 rfl (lv_at hl 3 rfl) ?_
  refine lv_iload_n hx hb d_law_348 rfl (lv_at hl 0 rfl) ?_
  refine lv_iconst (v := 1) hx hb d_law_349 (by decide) ?_
  refine lv_iadd hx hb d_law_350 ?_
  refine va_sld hx hb hX hbl hbA hS (vp_lit (by decide)) d_law_351 ?_
  have hPc := hP.sub (ws' := [(h2, .inr (12, YF)), (ya, .inl (cI, 40000, .inl fya))]) [0, 1] rfl
  have hDc := hD.sub (ws' := [(h2, .inr (12, YF)), (ya, .inl (cI, 40000, .inl fya))]) [0, 1] (by decide) rfl
  have hFc := va_free (wc := [(h2, .inr (12, YF)), (ya, .inl (cI, 40000, .inl fya))]) hD hS hA [0, 1] rfl
  refine va_calli (va_runV (C := R_Mod) (As := [.int (xs ((0 + 1) : Int32).toNatClampNeg)]) (rest := [.int (sp_at (xs ((0 + 1) : Int32).toNatClampNeg) 0 (fxa (xs ((0 + 1) : Int32).toNatClampNeg).toNatClampNeg &&& 255))]) ⟨hx, hb, hml, hown, hT⟩ (c_Mod_byteOf l dC dI cI cB cJ cZ H.size h2 YF ya 40000 fya (xs ((0 + 1) : Int32).toNatClampNeg) 0 nYF gYF_65 gYF_62 (by decide)) ⟨callB_of 1 hT (gw_in w_12_91) rfl rfl rfl (hT _ w_1_15) (hT _ w_12_88) (by decide +kernel) ⟨Nat.le_of_ble_eq_true rfl, Nat.le_of_ble_eq_true rfl⟩, hT _ w_12_89, hT _ w_12_90⟩ ⟨PC.blind, va_recv hK hPc (ci := 12) (q0 := 0) rfl rfl, PC.at _ hPc hDc hK hN⟩ rfl rfl hl.1 rfl (lv_room (Nat.le_of_ble_eq_true rfl)) d_law_352 ⟨show _ ≤ 600000 by omega, show _ ≤ 7302250 by omega⟩) hS (fun q _ h => hFc q h) hFc (fun r2 u t H1 locs ht hvm hw hB hz1 hk1 hS => ?_)
  have hw : (sp_at (xs ((0 + 1) : Int32).toNatClampNeg) 0 (fya (xs ((0 + 1) : Int32).toNatClampNeg).toNatClampNeg)) = r2 := Eq.symm hw
  subst hw
  obtain ⟨hP, hD⟩ := va_join (wr := []) (w1 := []) hP hD [0, 1] [] rfl rfl (by decide) (by decide) hk1 hFc nilP nilD
  generalize H1 = H at hP hS ⊢
  have hP : va_P (dC, dI) CL [] H := hP
  have hD : va_D A [] := hD
  refine lv_icmp_eq (tgt := 703) hx hb d_law_355 (by decide) (fun c1 => ?_) (fun c1 => absurd (at0 _ _ _) c1)
  exact lb_done C0 hA2 hbA hS hl
set_option maxHeartbeats 4000000 in
set_option maxRecDepth 100000 in
/-- the turn of case 10 -/
theorem lb_10 {p : Program} {l : Launch} {e : Env} {s : State} {m : MethodId} {below : List Frame} {meth : Method} {c : Code} {b : Nat} {xs : Nat → Int32} {A : Nat → Prop} {dC : Nat → ClassId} {dI : Nat → Nat → Nat} {cI cB cJ cZ : ClassId} (C0 : lw_At p s m meth c b 6 xs) (hA : ∀ q, s.heap.size ≤ q → A q) (hA2 : ∀ q, A q → s.heap.size ≤ q) (hbA : ¬ A b) (hK : va_K (dC, dI) CL (TY cI cB cJ cZ) s) {h1 h2 xf xa ya : Nat} {XF XS YF : List Value} {fxa fya : Nat → Int32} {H : Heap} {locs : List Loc} {ls : Array Slot} (hP : va_P (dC, dI) CL [(h1, .inr (0, XF)), (xf, .inr (1, XS)), (xa, .inl (cB, 512, .inl fxa)), (h2, .inr (12, YF)), (ya, .inl (cI, 40000, .inl fya))] H) (hD : va_D A [(h1, .inr (0, XF)), (xf, .inr (1, XS)), (xa, .inl (cB, 512, .inl fxa)), (h2, .inr (12, YF)), (ya, .inl (cI, 40000, .inl fya))]) (hS : va_S A s.heap H locs) (hl : lv_has ls 4 [(3, .int 0), (2, .ref h2), (1, .ref h1), (0, .ref b)]) (nXF : XF.length = 15) (gXF_2 : XF[2]? = some (.ref xf)) (nXS : XS.length = 7) (gXS_1 : XS[1]? = some (.int 0)) (gXS_0 : XS[0]? = some (.ref xa)) (nYF : YF.length = 167) (gYF_65 : YF[65]? = some (.int 0)) (gYF_62 : YF[62]? = some (.ref ya)) : W p l e room_1 s m #[Value.ref b] below meth c H locs 267 1600544 (lw_Z below #[Value.ref b] s) (F0 m 360 ls []) := by
  obtain ⟨hx, hb, hr, hml, hown0, hts, hX, hbl, hlocks, hgv⟩ := id C0
  have hown : s.vm.findClass R_Law = some m.cls := hown0
  have hT : ∀ w ∈ TG, w.before #[Value.ref b] s = true := fun w h => hts w (TG_lw w h)
  have hN : NW s := NW.of hts
  have hSW : SW s := SW.of hts
  refine lv_aload_n hx hb d_law_360 rfl (lv_at hl 2 rfl) ?_
  refine lv_aload_n hx hb d_law_361 rfl (lv_at hl 3 rfl) ?_
  refine lv_iload_n hx hb d_law_362 rfl (lv_at hl 0 rfl) ?_
  refine lv_iconst (v := 1) hx hb d_law_363 (by decide) ?_
  refine lv_iadd hx hb d_law_364 ?_
  refine va_sld hx hb hX hbl hbA hS (vp_lit (by decide)) d_law_365 ?_
  refine lv_aload_n hx hb d_law_366 rfl (lv_at hl 3 rfl) ?_
  refine lv_iload_n hx hb d_law_367 rfl (lv_at hl 0 rfl) ?_
  refine lv_iconst (v := 2) hx hb d_law_368 (by decide) ?_
  refine lv_iadd hx hb d_law_369 ?_
  refine va_sld hx hb hX hbl hbA hS (vp_lit (by decide)) d_law_370 ?_
  have hPc := hP.sub (ws' := [(h1, .inr (0, XF)), (xf, .inr (1, XS)), (xa, .inl (cB, 512, .inl fxa))]) [0, 1, 2] rfl
  have hDc := hD.sub (ws' := [(h1, .inr (0, XF)), (xf, .inr (1, XS)), (xa, .inl (cB, 512, .inl fxa))]) [0, 1, 2] (by decide) rfl
  have hFc := va_free (wc := [(h1, .inr (0, XF)), (xf, .inr (1, XS)), (xa, .inl (cB, 512, .inl fxa))]) hD hS hA [0, 1, 2] rfl
  refine va_calli (va_runV (C := R_V) (As := [.int (xs ((0 + 1) : Int32).toNatClampNeg), .int (xs ((0 + 2) : Int32).toNatClampNeg)]) (rest := []) ⟨hx, hb, hml, hown, hT⟩ (c_V_poke l dC dI cI cB cJ cZ H.size h1 XF xf XS xa 512 fxa (xs ((0 + 1) : Int32).toNatClampNeg) (xs ((0 + 2) : Int32).toNatClampNeg) 0 nXF gXF_2 nXS gXS_1 gXS_0 (by decide)) ⟨callB_of 2 hT (gw_in w_6_69) rfl rfl rfl (hT _ w_1_1) (hT _ w_6_66) (by decide +kernel) ⟨Nat.le_of_ble_eq_true rfl, Nat.le_of_ble_eq_true rfl⟩, hT _ w_6_67, hT _ w_6_68⟩ ⟨PC.blind, va_recv hK hPc (ci := 0) (q0 := 0) rfl rfl, PC.at _ hPc hDc hK hN⟩ rfl rfl hl.1 rfl (lv_room (Nat.le_of_ble_eq_true rfl)) d_law_371 ⟨show _ ≤ 600000 by omega, show _ ≤ 7302250 by omega⟩) hS (fun q _ h => hFc q h) hFc (fun r1 u t H1 locs ht hvm hw hB hz1 hk1 hS => ?_)
  have hw : (if ¬ (xs ((0 + 1) : Int32).toNatClampNeg) < 0 ∧ (xs ((0 + 1) : Int32).toNatClampNeg) < 0 then 1 else 0) = r1 := Eq.symm hw
  subst hw
  obtain ⟨hP, hD⟩ := va_join (wr := [(h2, .inr (12, YF)), (ya, .inl (cI, 40000, .inl fya))]) (w1 := []) hP hD [0, 1, 2] [3, 4] rfl rfl (by decide) (by decide) hk1 hFc nilP nilD
  generalize H1 = H at hP hS ⊢
  have hP : va_P (dC, dI) CL [(h2, .inr (12, YF)), (ya, .inl (cI, 40000, .inl fya))] H := hP
  have hD : va_D A [(h2, .inr (12, YF)), (ya, .inl (cI, 40000, .inl fya))] := hD
  refine lv_aload_n hx hb d_law_374 rfl (lv_at hl 1 rfl) ?_
  refine lv_aload_n hx hb d_law_375 rfl (lv_at hl 3 rfl) ?_
  refine lv_iload_n hx hb d_law_376 rfl (lv_at hl 0 rfl) ?_
  refine lv_iconst (v := 1) hx hb d_law_377 (by decide) ?_
  refine lv_iadd hx hb d_law_378 ?_
  refine va_sld hx hb hX hbl hbA hS (vp_lit (by decide)) d_law_379 ?_
  refine lv_aload_n hx hb d_law_380 rfl (lv_at hl 3 rfl) ?_
  refine lv_iload_n hx hb d_law_381 rfl (lv_at hl 0 rfl) ?_
  refine lv_iconst (v := 2) hx hb d_law_382 (by decide) ?_
  refine lv_iadd hx hb d_law_383 ?_
  refine va_sld hx hb hX hbl hbA hS (vp_lit (by decide)) d_law_384 ?_
  have hPc := hP.sub (ws' := [(h2, .inr (12, YF)), (ya, .inl (cI, 40000, .inl fya))]) [0, 1] rfl
  have hDc := hD.sub (ws' := [(h2, .inr (12, YF)), (ya, .inl (cI, 40000, .inl fya))]) [0, 1] (by decide) rfl
  have hFc := va_free (wc := [(h2, .inr (12, YF)), (ya, .inl (cI, 40000, .inl fya))]) hD hS hA [0, 1] rfl
  refine va_calli (va_runV (C := R_Mod) (As := [.int (xs ((0 + 1) : Int32).toNatClampNeg), .int (xs ((0 + 2) : Int32).toNatClampNeg)]) (rest := [.int (if ¬ (xs ((0 + 1) : Int32).toNatClampNeg) < 0 ∧ (xs ((0 + 1) : Int32).toNatClampNeg) < 0 then 1 else 0)]) ⟨hx, hb, hml, hown, hT⟩ (c_Mod_poke l dC dI cI cB cJ cZ H.size h2 YF ya 40000 fya (xs ((0 + 1) : Int32).toNatClampNeg) (xs ((0 + 2) : Int32).toNatClampNeg) 0 nYF gYF_65 gYF_62 (by decide)) ⟨callB_of 2 hT (gw_in w_12_95) rfl rfl rfl (hT _ w_1_15) (hT _ w_12_92) (by decide +kernel) ⟨Nat.le_of_ble_eq_true rfl, Nat.le_of_ble_eq_true rfl⟩, hT _ w_12_93, hT _ w_12_94⟩ ⟨PC.blind, va_recv hK hPc (ci := 12) (q0 := 0) rfl rfl, PC.at _ hPc hDc hK hN⟩ rfl rfl hl.1 rfl (lv_room (Nat.le_of_ble_eq_true rfl)) d_law_385 ⟨show _ ≤ 600000 by omega, show _ ≤ 7302250 by omega⟩) hS (fun q _ h => hFc q h) hFc (fun r2 u t H1 locs ht hvm hw hB hz1 hk1 hS => ?_)
  have hw : (if ¬ (xs ((0 + 1) : Int32).toNatClampNeg) < 0 ∧ (xs ((0 + 1) : Int32).toNatClampNeg) < 0 then 1 else 0) = r2 := Eq.symm hw
  subst hw
  obtain ⟨hP, hD⟩ := va_join (wr := []) (w1 := []) hP hD [0, 1] [] rfl rfl (by decide) (by decide) hk1 hFc nilP nilD
  generalize H1 = H at hP hS ⊢
  have hP : va_P (dC, dI) CL [] H := hP
  have hD : va_D A [] := hD
  refine lv_icmp_eq (tgt := 703) hx hb d_law_388 (by decide) (fun c1 => ?_) (fun c1 => absurd rfl c1)
  exact lb_done C0 hA2 hbA hS hl
set_option maxHeartbeats 4000000 in
set_option maxRecDepth 100000 in
/-- the turn of case 11 -/
theorem lb_11 {p : Program} {l : Launch} {e : Env} {s : State} {m : MethodId} {below : List Frame} {meth : Method} {c : Code} {b : Nat} {xs : Nat → Int32} {A : Nat → Prop} {dC : Nat → ClassId} {dI : Nat → Nat → Nat} {cI cB cJ cZ : ClassId} (C0 : lw_At p s m meth c b 6 xs) (hA : ∀ q, s.heap.size ≤ q → A q) (hA2 : ∀ q, A q → s.heap.size ≤ q) (hbA : ¬ A b) (hK : va_K (dC, dI) CL (TY cI cB cJ cZ) s) {h1 h2 xv0 xq0 xa0 xo0 xf0 xa xy ya : Nat} {XF XVv XQq XAa XOo XFf YF : List Value} {H : Heap} {locs : List Loc} {ls : Array Slot} (hP : va_P (dC, dI) CL [(h1, .inr (0, XF)), (xv0, .inr (6, XVv)), (xq0, .inr (9, XQq)), (xa0, .inr (10, XAa)), (xo0, .inr (7, XOo)), (xf0, .inr (1, XFf)), (xa, .inl (cI, 3, .inl (upd (upd (upd (fun _ => 0) (0 : Int32).toNatClampNeg (-1)) (1 : Int32).toNatClampNeg (-1)) (2 : Int32).toNatClampNeg (-1)))), (h2, .inr (12, YF)), (ya, .inl (cI, 3, .inl (upd (upd (upd (fun _ => 0) (0 : Int32).toNatClampNeg (-1)) (1 : Int32).toNatClampNeg (-1)) (2 : Int32).toNatClampNeg (-1))))] H) (hD : va_D A [(h1, .inr (0, XF)), (xv0, .inr (6, XVv)), (xq0, .inr (9, XQq)), (xa0, .inr (10, XAa)), (xo0, .inr (7, XOo)), (xf0, .inr (1, XFf)), (xa, .inl (cI, 3, .inl (upd (upd (upd (fun _ => 0) (0 : Int32).toNatClampNeg (-1)) (1 : Int32).toNatClampNeg (-1)) (2 : Int32).toNatClampNeg (-1)))), (h2, .inr (12, YF)), (ya, .inl (cI, 3, .inl (upd (upd (upd (fun _ => 0) (0 : Int32).toNatClampNeg (-1)) (1 : Int32).toNatClampNeg (-1)) (2 : Int32).toNatClampNeg (-1))))]) (hS : va_S A s.heap H locs) (hl : lv_has ls 4 [(3, .int 0), (2, .ref h2), (1, .ref h1), (0, .ref b)]) (nXF : XF.length = 15) (gXF_8 : XF[8]? = some (.ref xv0)) (gXF_10 : XF[10]? = some (.ref xq0)) (gXF_12 : XF[12]? = some (.ref xa0)) (gXF_9 : XF[9]? = some (.ref xo0)) (gXF_2 : XF[2]? = some (.ref xf0)) (nXVv : XVv.length = 20) (nXQq : XQq.length = 20) (nXAa : XAa.length = 16) (nXOo : XOo.length = 17) (gXOo_4 : XOo[4]? = some (.ref xa)) (gXOo_3 : XOo[3]? = some (.int 0)) (nXFf : XFf.length = 7) (gXFf_0 : XFf[0]? = some (.ref xy)) (gXFf_1 : XFf[1]? = some (.int 0)) (nYF : YF.length = 167) (gYF_65 : YF[65]? = some (.int 0)) (gYF_83 : YF[83]? = some (.int 0)) (gYF_80 : YF[80]? = some (.ref ya)) : W p l e room_1 s m #[Value.ref b] below meth c H locs 267 1600544 (lw_Z below #[Value.ref b] s) (F0 m 393 ls []) := by
  obtain ⟨hx, hb, hr, hml, hown0, hts, hX, hbl, hlocks, hgv⟩ := id C0
  have hown : s.vm.findClass R_Law = some m.cls := hown0
  have hT : ∀ w ∈ TG, w.before #[Value.ref b] s = true := fun w h => hts w (TG_lw w h)
  have hN : NW s := NW.of hts
  have hSW : SW s := SW.of hts
  refine lv_aload_n hx hb d_law_393 rfl (lv_at hl 2 rfl) ?_
  have hPc := hP.sub (ws' := [(h1, .inr (0, XF)), (xv0, .inr (6, XVv)), (xq0, .inr (9, XQq)), (xa0, .inr (10, XAa)), (xo0, .inr (7, XOo)), (xf0, .inr (1, XFf)), (xa, .inl (cI, 3, .inl (upd (upd (upd (fun _ => 0) (0 : Int32).toNatClampNeg (-1)) (1 : Int32).toNatClampNeg (-1)) (2 : Int32).toNatClampNeg (-1))))]) [0, 1, 2, 3, 4, 5, 6] rfl
  have hDc := hD.sub (ws' := [(h1, .inr (0, XF)), (xv0, .inr (6, XVv)), (xq0, .inr (9, XQq)), (xa0, .inr (10, XAa)), (xo0, .inr (7, XOo)), (xf0, .inr (1, XFf)), (xa, .inl (cI, 3, .inl (upd (upd (upd (fun _ => 0) (0 : Int32).toNatClampNeg (-1)) (1 : Int32).toNatClampNeg (-1)) (2 : Int32).toNatClampNeg (-1))))]) [0, 1, 2, 3, 4, 5, 6] (by decide) rfl
  have hFc := va_free (wc := [(h1, .inr (0, XF)), (xv0, .inr (6, XVv)), (xq0, .inr (9, XQq)), (xa0, .inr (10, XAa)), (xo0, .inr (7, XOo)), (xf0, .inr (1, XFf)), (xa, .inl (cI, 3, .inl (upd (upd (upd (fun _ => 0) (0 : Int32).toNatClampNeg (-1)) (1 : Int32).toNatClampNeg (-1)) (2 : Int32).toNatClampNeg (-1))))]) hD hS hA [0, 1, 2, 3, 4, 5, 6] rfl
  refine va_calli (va_runV (C := R_V) (As := []) (rest := []) ⟨hx, hb, hml, hown, hT⟩ (c_V_open_none l dC dI cI cB cJ cZ H.size h1 XF xv0 XVv xq0 XQq xa0 XAa xo0 XOo xf0 XFf xa xy (upd (upd (upd (fun _ => 0) (0 : Int32).toNatClampNeg (-1)) (1 : Int32).toNatClampNeg (-1)) (2 : Int32).toNatClampNeg (-1)) nXF gXF_8 gXF_10 gXF_12 gXF_9 gXF_2 nXVv nXQq nXAa nXOo gXOo_4 gXOo_3 nXFf gXFf_0 gXFf_1) ⟨callB_of 0 hT (gw_in w_6_73) rfl rfl rfl (hT _ w_1_1) (hT _ w_6_70) (by decide +kernel) ⟨Nat.le_of_ble_eq_true rfl, Nat.le_of_ble_eq_true rfl⟩, hT _ w_6_71, hT _ w_6_72⟩ ⟨PC.blind, va_recv hK hPc (ci := 0) (q0 := 0) rfl rfl, PC.at _ hPc hDc hK hN⟩ rfl rfl hl.1 rfl (lv_room (Nat.le_of_ble_eq_true rfl)) d_law_394 ⟨show _ ≤ 600000 by omega, show _ ≤ 7302250 by omega⟩) hS (fun q _ h => hFc q h) hFc (fun r1 u t H1 locs ht hvm hw hB hz1 hk1 hS => ?_)
  have hw : (13) = r1 := Eq.symm hw
  subst hw
  obtain ⟨hP, hD⟩ := va_join (wr := [(h2, .inr (12, YF)), (ya, .inl (cI, 3, .inl (upd (upd (upd (fun _ => 0) (0 : Int32).toNatClampNeg (-1)) (1 : Int32).toNatClampNeg (-1)) (2 : Int32).toNatClampNeg (-1))))]) (w1 := []) hP hD [0, 1, 2, 3, 4, 5, 6] [7, 8] rfl rfl (by decide) (by decide) hk1 hFc nilP nilD
  generalize H1 = H at hP hS ⊢
  have hP : va_P (dC, dI) CL [(h2, .inr (12, YF)), (ya, .inl (cI, 3, .inl (upd (upd (upd (fun _ => 0) (0 : Int32).toNatClampNeg (-1)) (1 : Int32).toNatClampNeg (-1)) (2 : Int32).toNatClampNeg (-1))))] H := hP
  have hD : va_D A [(h2, .inr (12, YF)), (ya, .inl (cI, 3, .inl (upd (upd (upd (fun _ => 0) (0 : Int32).toNatClampNeg (-1)) (1 : Int32).toNatClampNeg (-1)) (2 : Int32).toNatClampNeg (-1))))] := hD
  refine lv_aload_n hx hb d_law_397 rfl (lv_at hl 1 rfl) ?_
  have hPc := hP.sub (ws' := [(h2, .inr (12, YF)), (ya, .inl (cI, 3, .inl (upd (upd (upd (fun _ => 0) (0 : Int32).toNatClampNeg (-1)) (1 : Int32).toNatClampNeg (-1)) (2 : Int32).toNatClampNeg (-1))))]) [0, 1] rfl
  have hDc := hD.sub (ws' := [(h2, .inr (12, YF)), (ya, .inl (cI, 3, .inl (upd (upd (upd (fun _ => 0) (0 : Int32).toNatClampNeg (-1)) (1 : Int32).toNatClampNeg (-1)) (2 : Int32).toNatClampNeg (-1))))]) [0, 1] (by decide) rfl
  have hFc := va_free (wc := [(h2, .inr (12, YF)), (ya, .inl (cI, 3, .inl (upd (upd (upd (fun _ => 0) (0 : Int32).toNatClampNeg (-1)) (1 : Int32).toNatClampNeg (-1)) (2 : Int32).toNatClampNeg (-1))))]) hD hS hA [0, 1] rfl
  refine va_calli (va_runV (C := R_Mod) (As := []) (rest := [.int 13]) ⟨hx, hb, hml, hown, hT⟩ (c_Mod_open_none l dC dI cI cB cJ cZ H.size h2 YF ya (upd (upd (upd (fun _ => 0) (0 : Int32).toNatClampNeg (-1)) (1 : Int32).toNatClampNeg (-1)) (2 : Int32).toNatClampNeg (-1)) nYF gYF_65 gYF_83 gYF_80) ⟨callB_of 0 hT (gw_in w_12_99) rfl rfl rfl (hT _ w_1_15) (hT _ w_12_96) (by decide +kernel) ⟨Nat.le_of_ble_eq_true rfl, Nat.le_of_ble_eq_true rfl⟩, hT _ w_12_97, hT _ w_12_98⟩ ⟨PC.blind, va_recv hK hPc (ci := 12) (q0 := 0) rfl rfl, PC.at _ hPc hDc hK hN⟩ rfl rfl hl.1 rfl (lv_room (Nat.le_of_ble_eq_true rfl)) d_law_398 ⟨show _ ≤ 600000 by omega, show _ ≤ 7302250 by omega⟩) hS (fun q _ h => hFc q h) hFc (fun r2 u t H1 locs ht hvm hw hB hz1 hk1 hS => ?_)
  have hw : (13) = r2 := Eq.symm hw
  subst hw
  obtain ⟨hP, hD⟩ := va_join (wr := []) (w1 := []) hP hD [0, 1] [] rfl rfl (by decide) (by decide) hk1 hFc nilP nilD
  generalize H1 = H at hP hS ⊢
  have hP : va_P (dC, dI) CL [] H := hP
  have hD : va_D A [] := hD
  refine lv_icmp_eq (tgt := 703) hx hb d_law_401 (by decide) (fun c1 => ?_) (fun c1 => by first | exact absurd c1 (by decide) | exact absurd (by decide) c1)
  exact lb_done C0 hA2 hbA hS hl
set_option maxHeartbeats 4000000 in
set_option maxRecDepth 100000 in
/-- the turn of case 12 -/
theorem lb_12 {p : Program} {l : Launch} {e : Env} {s : State} {m : MethodId} {below : List Frame} {meth : Method} {c : Code} {b : Nat} {xs : Nat → Int32} {A : Nat → Prop} {dC : Nat → ClassId} {dI : Nat → Nat → Nat} {cI cB cJ cZ : ClassId} (C0 : lw_At p s m meth c b 6 xs) (hA : ∀ q, s.heap.size ≤ q → A q) (hA2 : ∀ q, A q → s.heap.size ≤ q) (hbA : ¬ A b) (hK : va_K (dC, dI) CL (TY cI cB cJ cZ) s) {h1 h2 xf xa ya : Nat} {XF XS YF : List Value} {H : Heap} {locs : List Loc} {ls : Array Slot} (hP : va_P (dC, dI) CL [(h1, .inr (0, XF)), (xf, .inr (7, XS)), (xa, .inl (cI, 3, .inl (upd (upd (upd (fun _ => 0) (0 : Int32).toNatClampNeg (-1)) (1 : Int32).toNatClampNeg (-1)) (2 : Int32).toNatClampNeg (-1)))), (h2, .inr (12, YF)), (ya, .inl (cI, 3, .inl (upd (upd (upd (fun _ => 0) (0 : Int32).toNatClampNeg (-1)) (1 : Int32).toNatClampNeg (-1)) (2 : Int32).toNatClampNeg (-1))))] H) (hD : va_D A [(h1, .inr (0, XF)), (xf, .inr (7, XS)), (xa, .inl (cI, 3, .inl (upd (upd (upd (fun _ => 0) (0 : Int32).toNatClampNeg (-1)) (1 : Int32).toNatClampNeg (-1)) (2 : Int32).toNatClampNeg (-1)))), (h2, .inr (12, YF)), (ya, .inl (cI, 3, .inl (upd (upd (upd (fun _ => 0) (0 : Int32).toNatClampNeg (-1)) (1 : Int32).toNatClampNeg (-1)) (2 : Int32).toNatClampNeg (-1))))]) (hS : va_S A s.heap H locs) (hl : lv_has ls 4 [(3, .int 0), (2, .ref h2), (1, .ref h1), (0, .ref b)]) (nXF : XF.length = 15) (gXF_9 : XF[9]? = some (.ref xf)) (nXS : XS.length = 17) (gXS_4 : XS[4]? = some (.ref xa)) (nYF : YF.length = 167) (gYF_80 : YF[80]? = some (.ref ya)) : W p l e room_1 s m #[Value.ref b] below meth c H locs 267 1600544 (lw_Z below #[Value.ref b] s) (F0 m 406 ls []) := by
  obtain ⟨hx, hb, hr, hml, hown0, hts, hX, hbl, hlocks, hgv⟩ := id C0
  have hown : s.vm.findClass R_Law = some m.cls := hown0
  have hT : ∀ w ∈ TG, w.before #[Value.ref b] s = true := fun w h => hts w (TG_lw w h)
  have hN : NW s := NW.of hts
  have hSW : SW s := SW.of hts
  refine lv_aload_n hx hb d_law_406 rfl (lv_at hl 2 rfl) ?_
  refine lv_aload_n hx hb d_law_407 rfl (lv_at hl 3 rfl) ?_
  refine lv_iload_n hx hb d_law_408 rfl (lv_at hl 0 rfl) ?_
  refine lv_iconst (v := 1) hx hb d_law_409 (by decide) ?_
  refine lv_iadd hx hb d_law_410 ?_
  refine va_sld hx hb hX hbl hbA hS (vp_lit (by decide)) d_law_411 ?_
  have hPc := hP.sub (ws' := [(h1, .inr (0, XF)), (xf, .inr (7, XS)), (xa, .inl (cI, 3, .inl (upd (upd (upd (fun _ => 0) (0 : Int32).toNatClampNeg (-1)) (1 : Int32).toNatClampNeg (-1)) (2 : Int32).toNatClampNeg (-1))))]) [0, 1, 2] rfl
  have hDc := hD.sub (ws' := [(h1, .inr (0, XF)), (xf, .inr (7, XS)), (xa, .inl (cI, 3, .inl (upd (upd (upd (fun _ => 0) (0 : Int32).toNatClampNeg (-1)) (1 : Int32).toNatClampNeg (-1)) (2 : Int32).toNatClampNeg (-1))))]) [0, 1, 2] (by decide) rfl
  have hFc := va_free (wc := [(h1, .inr (0, XF)), (xf, .inr (7, XS)), (xa, .inl (cI, 3, .inl (upd (upd (upd (fun _ => 0) (0 : Int32).toNatClampNeg (-1)) (1 : Int32).toNatClampNeg (-1)) (2 : Int32).toNatClampNeg (-1))))]) hD hS hA [0, 1, 2] rfl
  refine va_calli (va_runV (C := R_V) (As := [.int (xs ((0 + 1) : Int32).toNatClampNeg)]) (rest := []) ⟨hx, hb, hml, hown, hT⟩ (c_V_fault l dC dI cI cB cJ cZ H.size h1 XF xf XS xa (upd (upd (upd (fun _ => 0) (0 : Int32).toNatClampNeg (-1)) (1 : Int32).toNatClampNeg (-1)) (2 : Int32).toNatClampNeg (-1)) (xs ((0 + 1) : Int32).toNatClampNeg) nXF gXF_9 nXS gXS_4) ⟨callB_of 1 hT (gw_in w_7_67) rfl rfl rfl (hT _ w_1_1) (hT _ w_7_64) (by decide +kernel) ⟨Nat.le_of_ble_eq_true rfl, Nat.le_of_ble_eq_true rfl⟩, hT _ w_7_65, hT _ w_7_66⟩ ⟨PC.blind, va_recv hK hPc (ci := 0) (q0 := 0) rfl rfl, PC.at _ hPc hDc hK hN⟩ rfl rfl hl.1 rfl (lv_room (Nat.le_of_ble_eq_true rfl)) d_law_412 ⟨show _ ≤ 600000 by omega, show _ ≤ 7302250 by omega⟩) hS (fun q _ h => hFc q h) hFc (fun r1 u t H1 locs ht hvm hw hB hz1 hk1 hS => ?_)
  have hw : (sp_upto (xs ((0 + 1) : Int32).toNatClampNeg) 2 ((upd (upd (upd (fun _ => 0) (0 : Int32).toNatClampNeg (-1)) (1 : Int32).toNatClampNeg (-1)) (2 : Int32).toNatClampNeg (-1)) (xs ((0 + 1) : Int32).toNatClampNeg).toNatClampNeg)) = r1 := Eq.symm hw
  subst hw
  obtain ⟨hP, hD⟩ := va_join (wr := [(h2, .inr (12, YF)), (ya, .inl (cI, 3, .inl (upd (upd (upd (fun _ => 0) (0 : Int32).toNatClampNeg (-1)) (1 : Int32).toNatClampNeg (-1)) (2 : Int32).toNatClampNeg (-1))))]) (w1 := []) hP hD [0, 1, 2] [3, 4] rfl rfl (by decide) (by decide) hk1 hFc nilP nilD
  generalize H1 = H at hP hS ⊢
  have hP : va_P (dC, dI) CL [(h2, .inr (12, YF)), (ya, .inl (cI, 3, .inl (upd (upd (upd (fun _ => 0) (0 : Int32).toNatClampNeg (-1)) (1 : Int32).toNatClampNeg (-1)) (2 : Int32).toNatClampNeg (-1))))] H := hP
  have hD : va_D A [(h2, .inr (12, YF)), (ya, .inl (cI, 3, .inl (upd (upd (upd (fun _ => 0) (0 : Int32).toNatClampNeg (-1)) (1 : Int32).toNatClampNeg (-1)) (2 : Int32).toNatClampNeg (-1))))] := hD
  refine lv_aload_n hx hb d_law_415 rfl (lv_at hl 1 rfl) ?_
  refine lv_aload_n hx hb d_law_416 rfl (lv_at hl 3 rfl) ?_
  refine lv_iload_n hx hb d_law_417 rfl (lv_at hl 0 rfl) ?_
  refine lv_iconst (v := 1) hx hb d_law_418 (by decide) ?_
  refine lv_iadd hx hb d_law_419 ?_
  refine va_sld hx hb hX hbl hbA hS (vp_lit (by decide)) d_law_420 ?_
  have hPc := hP.sub (ws' := [(h2, .inr (12, YF)), (ya, .inl (cI, 3, .inl (upd (upd (upd (fun _ => 0) (0 : Int32).toNatClampNeg (-1)) (1 : Int32).toNatClampNeg (-1)) (2 : Int32).toNatClampNeg (-1))))]) [0, 1] rfl
  have hDc := hD.sub (ws' := [(h2, .inr (12, YF)), (ya, .inl (cI, 3, .inl (upd (upd (upd (fun _ => 0) (0 : Int32).toNatClampNeg (-1)) (1 : Int32).toNatClampNeg (-1)) (2 : Int32).toNatClampNeg (-1))))]) [0, 1] (by decide) rfl
  have hFc := va_free (wc := [(h2, .inr (12, YF)), (ya, .inl (cI, 3, .inl (upd (upd (upd (fun _ => 0) (0 : Int32).toNatClampNeg (-1)) (1 : Int32).toNatClampNeg (-1)) (2 : Int32).toNatClampNeg (-1))))]) hD hS hA [0, 1] rfl
  refine va_calli (va_runV (C := R_Mod) (As := [.int (xs ((0 + 1) : Int32).toNatClampNeg)]) (rest := [.int (sp_upto (xs ((0 + 1) : Int32).toNatClampNeg) 2 ((upd (upd (upd (fun _ => 0) (0 : Int32).toNatClampNeg (-1)) (1 : Int32).toNatClampNeg (-1)) (2 : Int32).toNatClampNeg (-1)) (xs ((0 + 1) : Int32).toNatClampNeg).toNatClampNeg))]) ⟨hx, hb, hml, hown, hT⟩ (c_Mod_fault l dC dI cI cB cJ cZ H.size h2 YF ya (upd (upd (upd (fun _ => 0) (0 : Int32).toNatClampNeg (-1)) (1 : Int32).toNatClampNeg (-1)) (2 : Int32).toNatClampNeg (-1)) (xs ((0 + 1) : Int32).toNatClampNeg) nYF gYF_80) ⟨callB_of 1 hT (gw_in w_13_42) rfl rfl rfl (hT _ w_1_15) (hT _ w_13_39) (by decide +kernel) ⟨Nat.le_of_ble_eq_true rfl, Nat.le_of_ble_eq_true rfl⟩, hT _ w_13_40, hT _ w_13_41⟩ ⟨PC.blind, va_recv hK hPc (ci := 12) (q0 := 0) rfl rfl, PC.at _ hPc hDc hK hN⟩ rfl rfl hl.1 rfl (lv_room (Nat.le_of_ble_eq_true rfl)) d_law_421 ⟨show _ ≤ 600000 by omega, show _ ≤ 7302250 by omega⟩) hS (fun q _ h => hFc q h) hFc (fun r2 u t H1 locs ht hvm hw hB hz1 hk1 hS => ?_)
  have hw : (sp_upto (xs ((0 + 1) : Int32).toNatClampNeg) 2 ((upd (upd (upd (fun _ => 0) (0 : Int32).toNatClampNeg (-1)) (1 : Int32).toNatClampNeg (-1)) (2 : Int32).toNatClampNeg (-1)) (xs ((0 + 1) : Int32).toNatClampNeg).toNatClampNeg)) = r2 := Eq.symm hw
  subst hw
  obtain ⟨hP, hD⟩ := va_join (wr := []) (w1 := []) hP hD [0, 1] [] rfl rfl (by decide) (by decide) hk1 hFc nilP nilD
  generalize H1 = H at hP hS ⊢
  have hP : va_P (dC, dI) CL [] H := hP
  have hD : va_D A [] := hD
  refine lv_icmp_eq (tgt := 703) hx hb d_law_424 (by decide) (fun c1 => ?_) (fun c1 => absurd rfl c1)
  exact lb_done C0 hA2 hbA hS hl
set_option maxHeartbeats 4000000 in
set_option maxRecDepth 100000 in
/-- the turn of case 13 -/
theorem lb_13 {p : Program} {l : Launch} {e : Env} {s : State} {m : MethodId} {below : List Frame} {meth : Method} {c : Code} {b : Nat} {xs : Nat → Int32} {A : Nat → Prop} {dC : Nat → ClassId} {dI : Nat → Nat → Nat} {cI cB cJ cZ : ClassId} (C0 : lw_At p s m meth c b 6 xs) (hA : ∀ q, s.heap.size ≤ q → A q) (hA2 : ∀ q, A q → s.heap.size ≤ q) (hbA : ¬ A b) (hK : va_K (dC, dI) CL (TY cI cB cJ cZ) s) {h1 h2 xc0 : Nat} {XF XC YF : List Value} {H : Heap} {locs : List Loc} {ls : Array Slot} (hP : va_P (dC, dI) CL [(h1, .inr (0, XF)), (xc0, .inr (6, XC)), (h2, .inr (12, YF))] H) (hD : va_D A [(h1, .inr (0, XF)), (xc0, .inr (6, XC)), (h2, .inr (12, YF))]) (hS : va_S A s.heap H locs) (hl : lv_has ls 4 [(3, .int 0), (2, .ref h2), (1, .ref h1), (0, .ref b)]) (nXF : XF.length = 15) (gXF_8 : XF[8]? = some (.ref xc0)) (nXC : XC.length = 20) (gXC_0 : XC[0]? = some (.int 0)) (nYF : YF.length = 167) (gYF_82 : YF[82]? = some (.int 0)) : W p l e room_1 s m #[Value.ref b] below meth c H locs 267 1600544 (lw_Z below #[Value.ref b] s) (F0 m 429 ls []) := by
  obtain ⟨hx, hb, hr, hml, hown0, hts, hX, hbl, hlocks, hgv⟩ := id C0
  have hown : s.vm.findClass R_Law = some m.cls := hown0
  have hT : ∀ w ∈ TG, w.before #[Value.ref b] s = true := fun w h => hts w (TG_lw w h)
  have hN : NW s := NW.of hts
  have hSW : SW s := SW.of hts
  refine lv_aload_n hx hb d_law_429 rfl (lv_at hl 2 rfl) ?_
  refine lv_aload_n hx hb d_law_430 rfl (lv_at hl 3 rfl) ?_
  refine lv_iload_n hx hb d_law_431 rfl (lv_at hl 0 rfl) ?_
  refine lv_iconst (v := 1) hx hb d_law_432 (by decide) ?_
  refine lv_iadd hx hb d_law_433 ?_
  refine va_sld hx hb hX hbl hbA hS (vp_lit (by decide)) d_law_434 ?_
  have hPc := hP.sub (ws' := [(h1, .inr (0, XF)), (xc0, .inr (6, XC))]) [0, 1] rfl
  have hDc := hD.sub (ws' := [(h1, .inr (0, XF)), (xc0, .inr (6, XC))]) [0, 1] (by decide) rfl
  have hFc := va_free (wc := [(h1, .inr (0, XF)), (xc0, .inr (6, XC))]) hD hS hA [0, 1] rfl
  refine va_calli (va_runV (C := R_V) (As := [.int (xs ((0 + 1) : Int32).toNatClampNeg)]) (rest := []) ⟨hx, hb, hml, hown, hT⟩ (c_V_opened_none l dC dI cI cB cJ cZ H.size h1 XF xc0 XC (xs ((0 + 1) : Int32).toNatClampNeg) nXF gXF_8 nXC gXC_0) ⟨callB_of 1 hT (gw_in w_7_71) rfl rfl rfl (hT _ w_1_1) (hT _ w_7_68) (by decide +kernel) ⟨Nat.le_of_ble_eq_true rfl, Nat.le_of_ble_eq_true rfl⟩, hT _ w_7_69, hT _ w_7_70⟩ ⟨PC.blind, va_recv hK hPc (ci := 0) (q0 := 0) rfl rfl, PC.at _ hPc hDc hK hN⟩ rfl rfl hl.1 rfl (lv_room (Nat.le_of_ble_eq_true rfl)) d_law_435 ⟨show _ ≤ 600000 by omega, show _ ≤ 7302250 by omega⟩) hS (fun q _ h => hFc q h) hFc (fun r1 u t H1 locs ht hvm hw hB hz1 hk1 hS => ?_)
  have hw : ((-1)) = r1 := Eq.symm hw
  subst hw
  obtain ⟨hP, hD⟩ := va_join (wr := [(h2, .inr (12, YF))]) (w1 := []) hP hD [0, 1] [2] rfl rfl (by decide) (by decide) hk1 hFc nilP nilD
  generalize H1 = H at hP hS ⊢
  have hP : va_P (dC, dI) CL [(h2, .inr (12, YF))] H := hP
  have hD : va_D A [(h2, .inr (12, YF))] := hD
  refine lv_aload_n hx hb d_law_438 rfl (lv_at hl 1 rfl) ?_
  refine lv_aload_n hx hb d_law_439 rfl (lv_at hl 3 rfl) ?_
  refine lv_iload_n hx hb d_law_440 rfl (lv_at hl 0 rfl) ?_
  refine lv_iconst (v := 1) hx hb d_law_441 (by decide) ?_
  refine lv_iadd hx hb d_law_442 ?_
  refine va_sld hx hb hX hbl hbA hS (vp_lit (by decide)) d_law_443 ?_
  have hPc := hP.sub (ws' := [(h2, .inr (12, YF))]) [0] rfl
  have hDc := hD.sub (ws' := [(h2, .inr (12, YF))]) [0] (by decide) rfl
  have hFc := va_free (wc := [(h2, .inr (12, YF))]) hD hS hA [0] rfl
  refine va_calli (va_runV (C := R_Mod) (As := [.int (xs ((0 + 1) : Int32).toNatClampNeg)]) (rest := [.int (-1)]) ⟨hx, hb, hml, hown, hT⟩ (c_Mod_opened_none l dC dI cI cB cJ cZ H.size h2 YF (xs ((0 + 1) : Int32).toNatClampNeg) nYF gYF_82) ⟨callB_of 1 hT (gw_in w_13_46) rfl rfl rfl (hT _ w_1_15) (hT _ w_13_43) (by decide +kernel) ⟨Nat.le_of_ble_eq_true rfl, Nat.le_of_ble_eq_true rfl⟩, hT _ w_13_44, hT _ w_13_45⟩ ⟨PC.blind, va_recv hK hPc (ci := 12) (q0 := 0) rfl rfl, PC.at _ hPc hDc hK hN⟩ rfl rfl hl.1 rfl (lv_room (Nat.le_of_ble_eq_true rfl)) d_law_444 ⟨show _ ≤ 600000 by omega, show _ ≤ 7302250 by omega⟩) hS (fun q _ h => hFc q h) hFc (fun r2 u t H1 locs ht hvm hw hB hz1 hk1 hS => ?_)
  have hw : ((-1)) = r2 := Eq.symm hw
  subst hw
  obtain ⟨hP, hD⟩ := va_join (wr := []) (w1 := []) hP hD [0] [] rfl rfl (by decide) (by decide) hk1 hFc nilP nilD
  generalize H1 = H at hP hS ⊢
  have hP : va_P (dC, dI) CL [] H := hP
  have hD : va_D A [] := hD
  refine lv_icmp_eq (tgt := 703) hx hb d_law_447 (by decide) (fun c1 => ?_) (fun c1 => by first | exact absurd c1 (by decide) | exact absurd (by decide) c1)
  exact lb_done C0 hA2 hbA hS hl
set_option maxHeartbeats 4000000 in
set_option maxRecDepth 100000 in
/-- the turn of case 14 -/
theorem lb_14 {p : Program} {l : Launch} {e : Env} {s : State} {m : MethodId} {below : List Frame} {meth : Method} {c : Code} {b : Nat} {xs : Nat → Int32} {A : Nat → Prop} {dC : Nat → ClassId} {dI : Nat → Nat → Nat} {cI cB cJ cZ : ClassId} (C0 : lw_At p s m meth c b 6 xs) (hA : ∀ q, s.heap.size ≤ q → A q) (hA2 : ∀ q, A q → s.heap.size ≤ q) (hbA : ¬ A b) (hK : va_K (dC, dI) CL (TY cI cB cJ cZ) s) {h1 h2 xb xf xc0 : Nat} {XF XBb XS XC YF : List Value} {H : Heap} {locs : List Loc} {ls : Array Slot} (hP : va_P (dC, dI) CL [(h1, .inr (0, XF)), (xb, .inr (11, XBb)), (xf, .inr (1, XS)), (xc0, .inr (6, XC)), (h2, .inr (12, YF))] H) (hD : va_D A [(h1, .inr (0, XF)), (xb, .inr (11, XBb)), (xf, .inr (1, XS)), (xc0, .inr (6, XC)), (h2, .inr (12, YF))]) (hS : va_S A s.heap H locs) (hl : lv_has ls 4 [(3, .int 0), (2, .ref h2), (1, .ref h1), (0, .ref b)]) (nXF : XF.length = 15) (gXF_14 : XF[14]? = some (.ref xb)) (nXBb : XBb.length = 4) (gXBb_0 : XBb[0]? = some (.ref xf)) (gXBb_1 : XBb[1]? = some (.ref xc0)) (nXS : XS.length = 7) (nXC : XC.length = 20) (gXC_0 : XC[0]? = some (.int 0)) (nYF : YF.length = 167) (gYF_82 : YF[82]? = some (.int 0)) : W p l e room_1 s m #[Value.ref b] below meth c H locs 267 1600544 (lw_Z below #[Value.ref b] s) (F0 m 452 ls []) := by
  obtain ⟨hx, hb, hr, hml, hown0, hts, hX, hbl, hlocks, hgv⟩ := id C0
  have hown : s.vm.findClass R_Law = some m.cls := hown0
  have hT : ∀ w ∈ TG, w.before #[Value.ref b] s = true := fun w h => hts w (TG_lw w h)
  have hN : NW s := NW.of hts
  have hSW : SW s := SW.of hts
  refine lv_aload_n hx hb d_law_452 rfl (lv_at hl 2 rfl) ?_
  refine lv_aload_n hx hb d_law_453 rfl (lv_at hl 3 rfl) ?_
  refine lv_iload_n hx hb d_law_454 rfl (lv_at hl 0 rfl) ?_
  refine lv_iconst (v := 1) hx hb d_law_455 (by decide) ?_
  refine lv_iadd hx hb d_law_456 ?_
  refine va_sld hx hb hX hbl hbA hS (vp_lit (by decide)) d_law_457 ?_
  have hPc := hP.sub (ws' := [(h1, .inr (0, XF)), (xb, .inr (11, XBb)), (xf, .inr (1, XS)), (xc0, .inr (6, XC))]) [0, 1, 2, 3] rfl
  have hDc := hD.sub (ws' := [(h1, .inr (0, XF)), (xb, .inr (11, XBb)), (xf, .inr (1, XS)), (xc0, .inr (6, XC))]) [0, 1, 2, 3] (by decide) rfl
  have hFc := va_free (wc := [(h1, .inr (0, XF)), (xb, .inr (11, XBb)), (xf, .inr (1, XS)), (xc0, .inr (6, XC))]) hD hS hA [0, 1, 2, 3] rfl
  refine va_calli (va_runV (C := R_V) (As := [.int (xs ((0 + 1) : Int32).toNatClampNeg)]) (rest := []) ⟨hx, hb, hml, hown, hT⟩ (c_V_show_none l dC dI cI cB cJ cZ H.size h1 XF xb XBb xf XS xc0 XC (xs ((0 + 1) : Int32).toNatClampNeg) nXF gXF_14 nXBb gXBb_0 gXBb_1 nXS nXC gXC_0) ⟨callB_of 1 hT (gw_in w_7_75) rfl rfl rfl (hT _ w_1_1) (hT _ w_7_72) (by decide +kernel) ⟨Nat.le_of_ble_eq_true rfl, Nat.le_of_ble_eq_true rfl⟩, hT _ w_7_73, hT _ w_7_74⟩ ⟨PC.blind, va_recv hK hPc (ci := 0) (q0 := 0) rfl rfl, PC.at _ hPc hDc hK hN⟩ rfl rfl hl.1 rfl (lv_room (Nat.le_of_ble_eq_true rfl)) d_law_458 ⟨show _ ≤ 600000 by omega, show _ ≤ 7302250 by omega⟩) hS (fun q _ h => hFc q h) hFc (fun r1 u t H1 locs ht hvm hw hB hz1 hk1 hS => ?_)
  have hw : ((-1)) = r1 := Eq.symm hw
  subst hw
  obtain ⟨hP, hD⟩ := va_join (wr := [(h2, .inr (12, YF))]) (w1 := []) hP hD [0, 1, 2, 3] [4] rfl rfl (by decide) (by decide) hk1 hFc nilP nilD
  generalize H1 = H at hP hS ⊢
  have hP : va_P (dC, dI) CL [(h2, .inr (12, YF))] H := hP
  have hD : va_D A [(h2, .inr (12, YF))] := hD
  refine lv_aload_n hx hb d_law_461 rfl (lv_at hl 1 rfl) ?_
  refine lv_aload_n hx hb d_law_462 rfl (lv_at hl 3 rfl) ?_
  refine lv_iload_n hx hb d_law_463 rfl (lv_at hl 0 rfl) ?_
  refine lv_iconst (v := 1) hx hb d_law_464 (by decide) ?_
  refine lv_iadd hx hb d_law_465 ?_
  refine va_sld hx hb hX hbl hbA hS (vp_lit (by decide)) d_law_466 ?_
  have hPc := hP.sub (ws' := [(h2, .inr (12, YF))]) [0] rfl
  have hDc := hD.sub (ws' := [(h2, .inr (12, YF))]) [0] (by decide) rfl
  have hFc := va_free (wc := [(h2, .inr (12, YF))]) hD hS hA [0] rfl
  refine va_calli (va_runV (C := R_Mod) (As := [.int (xs ((0 + 1) : Int32).toNatClampNeg)]) (rest := [.int (-1)]) ⟨hx, hb, hml, hown, hT⟩ (c_Mod_show_none l dC dI cI cB cJ cZ H.size h2 YF (xs ((0 + 1) : Int32).toNatClampNeg) nYF gYF_82) ⟨callB_of 1 hT (gw_in w_13_50) rfl rfl rfl (hT _ w_1_15) (hT _ w_13_47) (by decide +kernel) ⟨Nat.le_of_ble_eq_true rfl, Nat.le_of_ble_eq_true rfl⟩, hT _ w_13_48, hT _ w_13_49⟩ ⟨PC.blind, va_recv hK hPc (ci := 12) (q0 := 0) rfl rfl, PC.at _ hPc hDc hK hN⟩ rfl rfl hl.1 rfl (lv_room (Nat.le_of_ble_eq_true rfl)) d_law_467 ⟨show _ ≤ 600000 by omega, show _ ≤ 7302250 by omega⟩) hS (fun q _ h => hFc q h) hFc (fun r2 u t H1 locs ht hvm hw hB hz1 hk1 hS => ?_)
  have hw : ((-1)) = r2 := Eq.symm hw
  subst hw
  obtain ⟨hP, hD⟩ := va_join (wr := []) (w1 := []) hP hD [0] [] rfl rfl (by decide) (by decide) hk1 hFc nilP nilD
  generalize H1 = H at hP hS ⊢
  have hP : va_P (dC, dI) CL [] H := hP
  have hD : va_D A [] := hD
  refine lv_icmp_eq (tgt := 703) hx hb d_law_470 (by decide) (fun c1 => ?_) (fun c1 => by first | exact absurd c1 (by decide) | exact absurd (by decide) c1)
  exact lb_done C0 hA2 hbA hS hl
set_option maxHeartbeats 4000000 in
set_option maxRecDepth 100000 in
/-- the turn of case 15 -/
theorem lb_15 {p : Program} {l : Launch} {e : Env} {s : State} {m : MethodId} {below : List Frame} {meth : Method} {c : Code} {b : Nat} {xs : Nat → Int32} {A : Nat → Prop} {dC : Nat → ClassId} {dI : Nat → Nat → Nat} {cI cB cJ cZ : ClassId} (C0 : lw_At p s m meth c b 6 xs) (hA : ∀ q, s.heap.size ≤ q → A q) (hA2 : ∀ q, A q → s.heap.size ≤ q) (hbA : ¬ A b) (hK : va_K (dC, dI) CL (TY cI cB cJ cZ) s) {h1 h2 xf xc0 : Nat} {XF XS XC YF : List Value} {H : Heap} {locs : List Loc} {ls : Array Slot} (hP : va_P (dC, dI) CL [(h1, .inr (0, XF)), (xf, .inr (1, XS)), (xc0, .inr (6, XC)), (h2, .inr (12, YF))] H) (hD : va_D A [(h1, .inr (0, XF)), (xf, .inr (1, XS)), (xc0, .inr (6, XC)), (h2, .inr (12, YF))]) (hS : va_S A s.heap H locs) (hl : lv_has ls 4 [(3, .int 0), (2, .ref h2), (1, .ref h1), (0, .ref b)]) (nXF : XF.length = 15) (gXF_1 : XF[1]? = some (.ref xf)) (gXF_8 : XF[8]? = some (.ref xc0)) (nXS : XS.length = 7) (gXS_1 : XS[1]? = some (.int 0)) (nXC : XC.length = 20) (gXC_0 : XC[0]? = some (.int 0)) (nYF : YF.length = 167) (gYF_4 : YF[4]? = some (.int 0)) (gYF_82 : YF[82]? = some (.int 0)) : W p l e room_1 s m #[Value.ref b] below meth c H locs 267 1600544 (lw_Z below #[Value.ref b] s) (F0 m 475 ls []) := by
  obtain ⟨hx, hb, hr, hml, hown0, hts, hX, hbl, hlocks, hgv⟩ := id C0
  have hown : s.vm.findClass R_Law = some m.cls := hown0
  have hT : ∀ w ∈ TG, w.before #[Value.ref b] s = true := fun w h => hts w (TG_lw w h)
  have hN : NW s := NW.of hts
  have hSW : SW s := SW.of hts
  refine lv_aload_n hx hb d_law_475 rfl (lv_at hl 2 rfl) ?_
  have hPc := hP.sub (ws' := [(h1, .inr (0, XF)), (xf, .inr (1, XS)), (xc0, .inr (6, XC))]) [0, 1, 2] rfl
  have hDc := hD.sub (ws' := [(h1, .inr (0, XF)), (xf, .inr (1, XS)), (xc0, .inr (6, XC))]) [0, 1, 2] (by decide) rfl
  have hFc := va_free (wc := [(h1, .inr (0, XF)), (xf, .inr (1, XS)), (xc0, .inr (6, XC))]) hD hS hA [0, 1, 2] rfl
  refine va_calli (va_runV (C := R_V) (As := []) (rest := []) ⟨hx, hb, hml, hown, hT⟩ (c_V_query_none l dC dI cI cB cJ cZ H.size h1 XF xf XS xc0 XC 0 nXF gXF_1 gXF_8 nXS gXS_1 nXC gXC_0) ⟨callB_of 0 hT (gw_in w_7_136) rfl rfl rfl (hT _ w_1_1) (hT _ w_7_133) (by decide +kernel) ⟨Nat.le_of_ble_eq_true rfl, Nat.le_of_ble_eq_true rfl⟩, hT _ w_7_134, hT _ w_7_135⟩ ⟨PC.blind, va_recv hK hPc (ci := 0) (q0 := 0) rfl rfl, PC.at _ hPc hDc hK hN⟩ rfl rfl hl.1 rfl (lv_room (Nat.le_of_ble_eq_true rfl)) d_law_476 ⟨show _ ≤ 600000 by omega, show _ ≤ 7302250 by omega⟩) hS (fun q _ h => hFc q h) hFc (fun r1 u t H1 locs ht hvm hw hB hz1 hk1 hS => ?_)
  have hw : ((-2)) = r1 := Eq.symm hw
  subst hw
  obtain ⟨hP, hD⟩ := va_join (wr := [(h2, .inr (12, YF))]) (w1 := []) hP hD [0, 1, 2] [3] rfl rfl (by decide) (by decide) hk1 hFc nilP nilD
  generalize H1 = H at hP hS ⊢
  have hP : va_P (dC, dI) CL [(h2, .inr (12, YF))] H := hP
  have hD : va_D A [(h2, .inr (12, YF))] := hD
  refine lv_aload_n hx hb d_law_479 rfl (lv_at hl 1 rfl) ?_
  have hPc := hP.sub (ws' := [(h2, .inr (12, YF))]) [0] rfl
  have hDc := hD.sub (ws' := [(h2, .inr (12, YF))]) [0] (by decide) rfl
  have hFc := va_free (wc := [(h2, .inr (12, YF))]) hD hS hA [0] rfl
  refine va_calli (va_runV (C := R_Mod) (As := []) (rest := [.int (-2)]) ⟨hx, hb, hml, hown, hT⟩ (c_Mod_query_none l dC dI cI cB cJ cZ H.size h2 YF 0 nYF gYF_4 gYF_82) ⟨callB_of 0 hT (gw_in w_13_120) rfl rfl rfl (hT _ w_1_15) (hT _ w_13_117) (by decide +kernel) ⟨Nat.le_of_ble_eq_true rfl, Nat.le_of_ble_eq_true rfl⟩, hT _ w_13_118, hT _ w_13_119⟩ ⟨PC.blind, va_recv hK hPc (ci := 12) (q0 := 0) rfl rfl, PC.at _ hPc hDc hK hN⟩ rfl rfl hl.1 rfl (lv_room (Nat.le_of_ble_eq_true rfl)) d_law_480 ⟨show _ ≤ 600000 by omega, show _ ≤ 7302250 by omega⟩) hS (fun q _ h => hFc q h) hFc (fun r2 u t H1 locs ht hvm hw hB hz1 hk1 hS => ?_)
  have hw : ((-2)) = r2 := Eq.symm hw
  subst hw
  obtain ⟨hP, hD⟩ := va_join (wr := []) (w1 := []) hP hD [0] [] rfl rfl (by decide) (by decide) hk1 hFc nilP nilD
  generalize H1 = H at hP hS ⊢
  have hP : va_P (dC, dI) CL [] H := hP
  have hD : va_D A [] := hD
  refine lv_icmp_eq (tgt := 703) hx hb d_law_483 (by decide) (fun c1 => ?_) (fun c1 => by first | exact absurd c1 (by decide) | exact absurd (by decide) c1)
  exact lb_done C0 hA2 hbA hS hl
set_option maxHeartbeats 4000000 in
set_option maxRecDepth 100000 in
/-- the turn of case 16 -/
theorem lb_16 {p : Program} {l : Launch} {e : Env} {s : State} {m : MethodId} {below : List Frame} {meth : Method} {c : Code} {b : Nat} {xs : Nat → Int32} {A : Nat → Prop} {dC : Nat → ClassId} {dI : Nat → Nat → Nat} {cI cB cJ cZ : ClassId} (C0 : lw_At p s m meth c b 6 xs) (hA : ∀ q, s.heap.size ≤ q → A q) (hA2 : ∀ q, A q → s.heap.size ≤ q) (hbA : ¬ A b) (hK : va_K (dC, dI) CL (TY cI cB cJ cZ) s) {h1 h2 xc0 : Nat} {XF XC YF : List Value} {H : Heap} {locs : List Loc} {ls : Array Slot} (hP : va_P (dC, dI) CL [(h1, .inr (0, XF)), (xc0, .inr (9, XC)), (h2, .inr (12, YF))] H) (hD : va_D A [(h1, .inr (0, XF)), (xc0, .inr (9, XC)), (h2, .inr (12, YF))]) (hS : va_S A s.heap H locs) (hl : lv_has ls 4 [(3, .int 0), (2, .ref h2), (1, .ref h1), (0, .ref b)]) (nXF : XF.length = 15) (gXF_10 : XF[10]? = some (.ref xc0)) (nXC : XC.length = 20) (gXC_0 : XC[0]? = some (.int 0)) (nYF : YF.length = 167) (gYF_120 : YF[120]? = some (.int 0)) : W p l e room_1 s m #[Value.ref b] below meth c H locs 267 1600544 (lw_Z below #[Value.ref b] s) (F0 m 488 ls []) := by
  obtain ⟨hx, hb, hr, hml, hown0, hts, hX, hbl, hlocks, hgv⟩ := id C0
  have hown : s.vm.findClass R_Law = some m.cls := hown0
  have hT : ∀ w ∈ TG, w.before #[Value.ref b] s = true := fun w h => hts w (TG_lw w h)
  have hN : NW s := NW.of hts
  have hSW : SW s := SW.of hts
  refine lv_aload_n hx hb d_law_488 rfl (lv_at hl 2 rfl) ?_
  have hPc := hP.sub (ws' := [(h1, .inr (0, XF)), (xc0, .inr (9, XC))]) [0, 1] rfl
  have hDc := hD.sub (ws' := [(h1, .inr (0, XF)), (xc0, .inr (9, XC))]) [0, 1] (by decide) rfl
  have hFc := va_free (wc := [(h1, .inr (0, XF)), (xc0, .inr (9, XC))]) hD hS hA [0, 1] rfl
  refine va_calli (va_runV (C := R_V) (As := []) (rest := []) ⟨hx, hb, hml, hown, hT⟩ (c_V_run_none l dC dI cI cB cJ cZ H.size h1 XF xc0 XC  nXF gXF_10 nXC gXC_0) ⟨callB_of 0 hT (gw_in w_8_19) rfl rfl rfl (hT _ w_1_1) (hT _ w_8_16) (by decide +kernel) ⟨Nat.le_of_ble_eq_true rfl, Nat.le_of_ble_eq_true rfl⟩, hT _ w_8_17, hT _ w_8_18⟩ ⟨PC.blind, va_recv hK hPc (ci := 0) (q0 := 0) rfl rfl, PC.at _ hPc hDc hK hN⟩ rfl rfl hl.1 rfl (lv_room (Nat.le_of_ble_eq_true rfl)) d_law_489 ⟨show _ ≤ 600000 by omega, show _ ≤ 7302250 by omega⟩) hS (fun q _ h => hFc q h) hFc (fun r1 u t H1 locs ht hvm hw hB hz1 hk1 hS => ?_)
  have hw : ((-1)) = r1 := Eq.symm hw
  subst hw
  obtain ⟨hP, hD⟩ := va_join (wr := [(h2, .inr (12, YF))]) (w1 := []) hP hD [0, 1] [2] rfl rfl (by decide) (by decide) hk1 hFc nilP nilD
  generalize H1 = H at hP hS ⊢
  have hP : va_P (dC, dI) CL [(h2, .inr (12, YF))] H := hP
  have hD : va_D A [(h2, .inr (12, YF))] := hD
  refine lv_aload_n hx hb d_law_492 rfl (lv_at hl 1 rfl) ?_
  have hPc := hP.sub (ws' := [(h2, .inr (12, YF))]) [0] rfl
  have hDc := hD.sub (ws' := [(h2, .inr (12, YF))]) [0] (by decide) rfl
  have hFc := va_free (wc := [(h2, .inr (12, YF))]) hD hS hA [0] rfl
  refine va_calli (va_runV (C := R_Mod) (As := []) (rest := [.int (-1)]) ⟨hx, hb, hml, hown, hT⟩ (c_Mod_run_none l dC dI cI cB cJ cZ H.size h2 YF  nYF gYF_120) ⟨callB_of 0 hT (gw_in w_13_203) rfl rfl rfl (hT _ w_1_15) (hT _ w_13_200) (by decide +kernel) ⟨Nat.le_of_ble_eq_true rfl, Nat.le_of_ble_eq_true rfl⟩, hT _ w_13_201, hT _ w_13_202⟩ ⟨PC.blind, va_recv hK hPc (ci := 12) (q0 := 0) rfl rfl, PC.at _ hPc hDc hK hN⟩ rfl rfl hl.1 rfl (lv_room (Nat.le_of_ble_eq_true rfl)) d_law_493 ⟨show _ ≤ 600000 by omega, show _ ≤ 7302250 by omega⟩) hS (fun q _ h => hFc q h) hFc (fun r2 u t H1 locs ht hvm hw hB hz1 hk1 hS => ?_)
  have hw : ((-1)) = r2 := Eq.symm hw
  subst hw
  obtain ⟨hP, hD⟩ := va_join (wr := []) (w1 := []) hP hD [0] [] rfl rfl (by decide) (by decide) hk1 hFc nilP nilD
  generalize H1 = H at hP hS ⊢
  have hP : va_P (dC, dI) CL [] H := hP
  have hD : va_D A [] := hD
  refine lv_icmp_eq (tgt := 703) hx hb d_law_496 (by decide) (fun c1 => ?_) (fun c1 => by first | exact absurd c1 (by decide) | exact absurd (by decide) c1)
  exact lb_done C0 hA2 hbA hS hl
set_option maxHeartbeats 4000000 in
set_option maxRecDepth 100000 in
/-- the turn of case 17 -/
theorem lb_17 {p : Program} {l : Launch} {e : Env} {s : State} {m : MethodId} {below : List Frame} {meth : Method} {c : Code} {b : Nat} {xs : Nat → Int32} {A : Nat → Prop} {dC : Nat → ClassId} {dI : Nat → Nat → Nat} {cI cB cJ cZ : ClassId} (C0 : lw_At p s m meth c b 6 xs) (hA : ∀ q, s.heap.size ≤ q → A q) (hA2 : ∀ q, A q → s.heap.size ≤ q) (hbA : ¬ A b) (hK : va_K (dC, dI) CL (TY cI cB cJ cZ) s) {h1 h2 xf xa : Nat} {XF XS YF : List Value} {fxa : Nat → Int32} {H : Heap} {locs : List Loc} {ls : Array Slot} (hP : va_P (dC, dI) CL [(h1, .inr (0, XF)), (xf, .inr (10, XS)), (xa, .inl (cI, 2000, .inl fxa)), (h2, .inr (12, YF))] H) (hD : va_D A [(h1, .inr (0, XF)), (xf, .inr (10, XS)), (xa, .inl (cI, 2000, .inl fxa)), (h2, .inr (12, YF))]) (hS : va_S A s.heap H locs) (hl : lv_has ls 4 [(3, .int 0), (2, .ref h2), (1, .ref h1), (0, .ref b)]) (nXF : XF.length = 15) (gXF_12 : XF[12]? = some (.ref xf)) (nXS : XS.length = 16) (gXS_0 : XS[0]? = some (.int 0)) (gXS_6 : XS[6]? = some (.int 0)) (gXS_1 : XS[1]? = some (.int 0)) (gXS_5 : XS[5]? = some (.ref xa)) (nYF : YF.length = 167) (gYF_121 : YF[121]? = some (.int 0)) : W p l e room_1 s m #[Value.ref b] below meth c H locs 267 1600544 (lw_Z below #[Value.ref b] s) (F0 m 501 ls []) := by
  obtain ⟨hx, hb, hr, hml, hown0, hts, hX, hbl, hlocks, hgv⟩ := id C0
  have hown : s.vm.findClass R_Law = some m.cls := hown0
  have hT : ∀ w ∈ TG, w.before #[Value.ref b] s = true := fun w h => hts w (TG_lw w h)
  have hN : NW s := NW.of hts
  have hSW : SW s := SW.of hts
  refine lv_aload_n hx hb d_law_501 rfl (lv_at hl 2 rfl) ?_
  refine lv_aload_n hx hb d_law_502 rfl (lv_at hl 3 rfl) ?_
  refine lv_iload_n hx hb d_law_503 rfl (lv_at hl 0 rfl) ?_
  refine lv_iconst (v := 1) hx hb d_law_504 (by decide) ?_
  refine lv_iadd hx hb d_law_505 ?_
  refine va_sld hx hb hX hbl hbA hS (vp_lit (by decide)) d_law_506 ?_
  have hPc := hP.sub (ws' := [(h1, .inr (0, XF)), (xf, .inr (10, XS)), (xa, .inl (cI, 2000, .inl fxa))]) [0, 1, 2] rfl
  have hDc := hD.sub (ws' := [(h1, .inr (0, XF)), (xf, .inr (10, XS)), (xa, .inl (cI, 2000, .inl fxa))]) [0, 1, 2] (by decide) rfl
  have hFc := va_free (wc := [(h1, .inr (0, XF)), (xf, .inr (10, XS)), (xa, .inl (cI, 2000, .inl fxa))]) hD hS hA [0, 1, 2] rfl
  refine va_calli (va_runV (C := R_V) (As := [.int (xs ((0 + 1) : Int32).toNatClampNeg)]) (rest := []) ⟨hx, hb, hml, hown, hT⟩ (c_V_row l dC dI cI cB cJ cZ H.size h1 XF xf XS xa 2000 fxa 0 0 (xs ((0 + 1) : Int32).toNatClampNeg) 0 nXF gXF_12 nXS gXS_0 gXS_6 gXS_1 gXS_5 (by decide)) ⟨callB_of 1 hT (gw_in w_8_134) rfl rfl rfl (hT _ w_1_1) (hT _ w_8_131) (by decide +kernel) ⟨Nat.le_of_ble_eq_true rfl, Nat.le_of_ble_eq_true rfl⟩, hT _ w_8_132, hT _ w_8_133⟩ ⟨PC.blind, va_recv hK hPc (ci := 0) (q0 := 0) rfl rfl, PC.at _ hPc hDc hK hN⟩ rfl rfl hl.1 rfl (lv_room (Nat.le_of_ble_eq_true rfl)) d_law_507 ⟨show _ ≤ 600000 by omega, show _ ≤ 7302250 by omega⟩) hS (fun q _ h => hFc q h) hFc (fun r1 u t H1 locs ht hvm hw hB hz1 hk1 hS => ?_)
  have hw : (sp_rowAt 0 0 (xs ((0 + 1) : Int32).toNatClampNeg) 0 (fxa (xs ((0 + 1) : Int32).toNatClampNeg).toNatClampNeg)) = r1 := Eq.symm hw
  subst hw
  obtain ⟨hP, hD⟩ := va_join (wr := [(h2, .inr (12, YF))]) (w1 := []) hP hD [0, 1, 2] [3] rfl rfl (by decide) (by decide) hk1 hFc nilP nilD
  generalize H1 = H at hP hS ⊢
  have hP : va_P (dC, dI) CL [(h2, .inr (12, YF))] H := hP
  have hD : va_D A [(h2, .inr (12, YF))] := hD
  refine lv_aload_n hx hb d_law_510 rfl (lv_at hl 1 rfl) ?_
  refine lv_aload_n hx hb d_law_511 rfl (lv_at hl 3 rfl) ?_
  refine lv_iload_n hx hb d_law_512 rfl (lv_at hl 0 rfl) ?_
  refine lv_iconst (v := 1) hx hb d_law_513 (by decide) ?_
  refine lv_iadd hx hb d_law_514 ?_
  refine va_sld hx hb hX hbl hbA hS (vp_lit (by decide)) d_law_515 ?_
  have hPc := hP.sub (ws' := [(h2, .inr (12, YF))]) [0] rfl
  have hDc := hD.sub (ws' := [(h2, .inr (12, YF))]) [0] (by decide) rfl
  have hFc := va_free (wc := [(h2, .inr (12, YF))]) hD hS hA [0] rfl
  refine va_calli (va_runV (C := R_Mod) (As := [.int (xs ((0 + 1) : Int32).toNatClampNeg)]) (rest := [.int (sp_rowAt 0 0 (xs ((0 + 1) : Int32).toNatClampNeg) 0 (fxa (xs ((0 + 1) : Int32).toNatClampNeg).toNatClampNeg))]) ⟨hx, hb, hml, hown, hT⟩ (c_Mod_row_none l dC dI cI cB cJ cZ H.size h2 YF (xs ((0 + 1) : Int32).toNatClampNeg) nYF gYF_121) ⟨callB_of 1 hT (gw_in w_14_55) rfl rfl rfl (hT _ w_1_15) (hT _ w_14_52) (by decide +kernel) ⟨Nat.le_of_ble_eq_true rfl, Nat.le_of_ble_eq_true rfl⟩, hT _ w_14_53, hT _ w_14_54⟩ ⟨PC.blind, va_recv hK hPc (ci := 12) (q0 := 0) rfl rfl, PC.at _ hPc hDc hK hN⟩ rfl rfl hl.1 rfl (lv_room (Nat.le_of_ble_eq_true rfl)) d_law_516 ⟨show _ ≤ 600000 by omega, show _ ≤ 7302250 by omega⟩) hS (fun q _ h => hFc q h) hFc (fun r2 u t H1 locs ht hvm hw hB hz1 hk1 hS => ?_)
  have hw : ((-1)) = r2 := Eq.symm hw
  subst hw
  obtain ⟨hP, hD⟩ := va_join (wr := []) (w1 := []) hP hD [0] [] rfl rfl (by decide) (by decide) hk1 hFc nilP nilD
  generalize H1 = H at hP hS ⊢
  have hP : va_P (dC, dI) CL [] H := hP
  have hD : va_D A [] := hD
  refine lv_icmp_eq (tgt := 703) hx hb d_law_519 (by decide) (fun c1 => ?_) (fun c1 => absurd (by simp [sp_rowAt]) c1)
  exact lb_done C0 hA2 hbA hS hl
set_option maxHeartbeats 4000000 in
set_option maxRecDepth 100000 in
/-- the turn of case 18 -/
theorem lb_18 {p : Program} {l : Launch} {e : Env} {s : State} {m : MethodId} {below : List Frame} {meth : Method} {c : Code} {b : Nat} {xs : Nat → Int32} {A : Nat → Prop} {dC : Nat → ClassId} {dI : Nat → Nat → Nat} {cI cB cJ cZ : ClassId} (C0 : lw_At p s m meth c b 6 xs) (hA : ∀ q, s.heap.size ≤ q → A q) (hA2 : ∀ q, A q → s.heap.size ≤ q) (hbA : ¬ A b) (hK : va_K (dC, dI) CL (TY cI cB cJ cZ) s) {h1 h2 xb0 xa0 xf0 xv0 xa xy : Nat} {XF XBb XS XC XAa YF : List Value} {fxa : Nat → Int32} {H : Heap} {locs : List Loc} {ls : Array Slot} (hP : va_P (dC, dI) CL [(h1, .inr (0, XF)), (xb0, .inr (11, XBb)), (xf0, .inr (1, XS)), (xv0, .inr (6, XC)), (xa0, .inr (10, XAa)), (xa, .inl (cI, 2000, .inl fxa)), (h2, .inr (12, YF))] H) (hD : va_D A [(h1, .inr (0, XF)), (xb0, .inr (11, XBb)), (xf0, .inr (1, XS)), (xv0, .inr (6, XC)), (xa0, .inr (10, XAa)), (xa, .inl (cI, 2000, .inl fxa)), (h2, .inr (12, YF))]) (hS : va_S A s.heap H locs) (hl : lv_has ls 4 [(3, .int 0), (2, .ref h2), (1, .ref h1), (0, .ref b)]) (nXF : XF.length = 15) (gXF_14 : XF[14]? = some (.ref xb0)) (gXF_12 : XF[12]? = some (.ref xa0)) (nXBb : XBb.length = 4) (gXBb_0 : XBb[0]? = some (.ref xf0)) (gXBb_1 : XBb[1]? = some (.ref xv0)) (nXS : XS.length = 7) (nXC : XC.length = 20) (gXC_0 : XC[0]? = some (.int 0)) (nXAa : XAa.length = 16) (gXAa_0 : XAa[0]? = some (.int 0)) (gXAa_6 : XAa[6]? = some (.int 0)) (gXAa_1 : XAa[1]? = some (.int 0)) (gXAa_5 : XAa[5]? = some (.ref xa)) (gXAa_4 : XAa[4]? = some (.ref xy)) (nYF : YF.length = 167) (gYF_121 : YF[121]? = some (.int 0)) : W p l e room_1 s m #[Value.ref b] below meth c H locs 267 1600544 (lw_Z below #[Value.ref b] s) (F0 m 524 ls []) := by
  obtain ⟨hx, hb, hr, hml, hown0, hts, hX, hbl, hlocks, hgv⟩ := id C0
  have hown : s.vm.findClass R_Law = some m.cls := hown0
  have hT : ∀ w ∈ TG, w.before #[Value.ref b] s = true := fun w h => hts w (TG_lw w h)
  have hN : NW s := NW.of hts
  have hSW : SW s := SW.of hts
  refine lv_aload_n hx hb d_law_524 rfl (lv_at hl 2 rfl) ?_
  refine lv_aload_n hx hb d_law_525 rfl (lv_at hl 3 rfl) ?_
  refine lv_iload_n hx hb d_law_526 rfl (lv_at hl 0 rfl) ?_
  refine lv_iconst (v := 1) hx hb d_law_527 (by decide) ?_
  refine lv_iadd hx hb d_law_528 ?_
  refine va_sld hx hb hX hbl hbA hS (vp_lit (by decide)) d_law_529 ?_
  have hPc := hP.sub (ws' := [(h1, .inr (0, XF)), (xb0, .inr (11, XBb)), (xf0, .inr (1, XS)), (xv0, .inr (6, XC)), (xa0, .inr (10, XAa)), (xa, .inl (cI, 2000, .inl fxa))]) [0, 1, 2, 3, 4, 5] rfl
  have hDc := hD.sub (ws' := [(h1, .inr (0, XF)), (xb0, .inr (11, XBb)), (xf0, .inr (1, XS)), (xv0, .inr (6, XC)), (xa0, .inr (10, XAa)), (xa, .inl (cI, 2000, .inl fxa))]) [0, 1, 2, 3, 4, 5] (by decide) rfl
  have hFc := va_free (wc := [(h1, .inr (0, XF)), (xb0, .inr (11, XBb)), (xf0, .inr (1, XS)), (xv0, .inr (6, XC)), (xa0, .inr (10, XAa)), (xa, .inl (cI, 2000, .inl fxa))]) hD hS hA [0, 1, 2, 3, 4, 5] rfl
  refine va_calli (va_runV (C := R_V) (As := [.int (xs ((0 + 1) : Int32).toNatClampNeg)]) (rest := []) ⟨hx, hb, hml, hown, hT⟩ (c_V_answer_none l dC dI cI cB cJ cZ H.size h1 XF xb0 XBb xf0 XS xv0 XC xa0 XAa xa xy 2000 fxa 0 0 0 (xs ((0 + 1) : Int32).toNatClampNeg) nXF gXF_14 gXF_12 nXBb gXBb_0 gXBb_1 nXS nXC gXC_0 nXAa gXAa_0 gXAa_6 gXAa_1 gXAa_5 gXAa_4 (by decide)) ⟨callB_of 1 hT (gw_in w_8_142) rfl rfl rfl (hT _ w_1_1) (hT _ w_8_139) (by decide +kernel) ⟨Nat.le_of_ble_eq_true rfl, Nat.le_of_ble_eq_true rfl⟩, hT _ w_8_140, hT _ w_8_141⟩ ⟨PC.blind, va_recv hK hPc (ci := 0) (q0 := 0) rfl rfl, PC.at _ hPc hDc hK hN⟩ rfl rfl hl.1 rfl (lv_room (Nat.le_of_ble_eq_true rfl)) d_law_530 ⟨show _ ≤ 600000 by omega, show _ ≤ 7302250 by omega⟩) hS (fun q _ h => hFc q h) hFc (fun r1 u t H1 locs ht hvm hw hB hz1 hk1 hS => ?_)
  have hw : ((-1)) = r1 := Eq.symm hw
  subst hw
  obtain ⟨hP, hD⟩ := va_join (wr := [(h2, .inr (12, YF))]) (w1 := []) hP hD [0, 1, 2, 3, 4, 5] [6] rfl rfl (by decide) (by decide) hk1 hFc nilP nilD
  generalize H1 = H at hP hS ⊢
  have hP : va_P (dC, dI) CL [(h2, .inr (12, YF))] H := hP
  have hD : va_D A [(h2, .inr (12, YF))] := hD
  refine lv_aload_n hx hb d_law_533 rfl (lv_at hl 1 rfl) ?_
  refine lv_aload_n hx hb d_law_534 rfl (lv_at hl 3 rfl) ?_
  refine lv_iload_n hx hb d_law_535 rfl (lv_at hl 0 rfl) ?_
  refine lv_iconst (v := 1) hx hb d_law_536 (by decide) ?_
  refine lv_iadd hx hb d_law_537 ?_
  refine va_sld hx hb hX hbl hbA hS (vp_lit (by decide)) d_law_538 ?_
  have hPc := hP.sub (ws' := [(h2, .inr (12, YF))]) [0] rfl
  have hDc := hD.sub (ws' := [(h2, .inr (12, YF))]) [0] (by decide) rfl
  have hFc := va_free (wc := [(h2, .inr (12, YF))]) hD hS hA [0] rfl
  refine va_calli (va_runV (C := R_Mod) (As := [.int (xs ((0 + 1) : Int32).toNatClampNeg)]) (rest := [.int (-1)]) ⟨hx, hb, hml, hown, hT⟩ (c_Mod_answer_none l dC dI cI cB cJ cZ H.size h2 YF (xs ((0 + 1) : Int32).toNatClampNeg) nYF gYF_121) ⟨callB_of 1 hT (gw_in w_14_63) rfl rfl rfl (hT _ w_1_15) (hT _ w_14_60) (by decide +kernel) ⟨Nat.le_of_ble_eq_true rfl, Nat.le_of_ble_eq_true rfl⟩, hT _ w_14_61, hT _ w_14_62⟩ ⟨PC.blind, va_recv hK hPc (ci := 12) (q0 := 0) rfl rfl, PC.at _ hPc hDc hK hN⟩ rfl rfl hl.1 rfl (lv_room (Nat.le_of_ble_eq_true rfl)) d_law_539 ⟨show _ ≤ 600000 by omega, show _ ≤ 7302250 by omega⟩) hS (fun q _ h => hFc q h) hFc (fun r2 u t H1 locs ht hvm hw hB hz1 hk1 hS => ?_)
  have hw : ((-1)) = r2 := Eq.symm hw
  subst hw
  obtain ⟨hP, hD⟩ := va_join (wr := []) (w1 := []) hP hD [0] [] rfl rfl (by decide) (by decide) hk1 hFc nilP nilD
  generalize H1 = H at hP hS ⊢
  have hP : va_P (dC, dI) CL [] H := hP
  have hD : va_D A [] := hD
  refine lv_icmp_eq (tgt := 703) hx hb d_law_542 (by decide) (fun c1 => ?_) (fun c1 => by first | exact absurd c1 (by decide) | exact absurd (by decide) c1)
  exact lb_done C0 hA2 hbA hS hl
set_option maxHeartbeats 4000000 in
set_option maxRecDepth 100000 in
/-- the turn of case 19 -/
theorem lb_19 {p : Program} {l : Launch} {e : Env} {s : State} {m : MethodId} {below : List Frame} {meth : Method} {c : Code} {b : Nat} {xs : Nat → Int32} {A : Nat → Prop} {dC : Nat → ClassId} {dI : Nat → Nat → Nat} {cI cB cJ cZ : ClassId} (C0 : lw_At p s m meth c b 6 xs) (hA : ∀ q, s.heap.size ≤ q → A q) (hA2 : ∀ q, A q → s.heap.size ≤ q) (hbA : ¬ A b) (hK : va_K (dC, dI) CL (TY cI cB cJ cZ) s) {h1 h2 xf xa : Nat} {XF XS YF : List Value} {fxa : Nat → Int32} {H : Heap} {locs : List Loc} {ls : Array Slot} (hP : va_P (dC, dI) CL [(h1, .inr (0, XF)), (xf, .inr (10, XS)), (xa, .inl (cB, 8000, .inl fxa)), (h2, .inr (12, YF))] H) (hD : va_D A [(h1, .inr (0, XF)), (xf, .inr (10, XS)), (xa, .inl (cB, 8000, .inl fxa)), (h2, .inr (12, YF))]) (hS : va_S A s.heap H locs) (hl : lv_has ls 4 [(3, .int 0), (2, .ref h2), (1, .ref h1), (0, .ref b)]) (nXF : XF.length = 15) (gXF_12 : XF[12]? = some (.ref xf)) (nXS : XS.length = 16) (gXS_0 : XS[0]? = some (.int 0)) (gXS_6 : XS[6]? = some (.int 0)) (gXS_1 : XS[1]? = some (.int 0)) (gXS_7 : XS[7]? = some (.int 0)) (gXS_8 : XS[8]? = some (.ref xa)) (nYF : YF.length = 167) (gYF_121 : YF[121]? = some (.int 0)) : W p l e room_1 s m #[Value.ref b] below meth c H locs 267 1600544 (lw_Z below #[Value.ref b] s) (F0 m 547 ls []) := by
  obtain ⟨hx, hb, hr, hml, hown0, hts, hX, hbl, hlocks, hgv⟩ := id C0
  have hown : s.vm.findClass R_Law = some m.cls := hown0
  have hT : ∀ w ∈ TG, w.before #[Value.ref b] s = true := fun w h => hts w (TG_lw w h)
  have hN : NW s := NW.of hts
  have hSW : SW s := SW.of hts
  refine lv_aload_n hx hb d_law_547 rfl (lv_at hl 2 rfl) ?_
  refine lv_aload_n hx hb d_law_548 rfl (lv_at hl 3 rfl) ?_
  refine lv_iload_n hx hb d_law_549 rfl (lv_at hl 0 rfl) ?_
  refine lv_iconst (v := 1) hx hb d_law_550 (by decide) ?_
  refine lv_iadd hx hb d_law_551 ?_
  refine va_sld hx hb hX hbl hbA hS (vp_lit (by decide)) d_law_552 ?_
  refine lv_aload_n hx hb d_law_553 rfl (lv_at hl 3 rfl) ?_
  refine lv_iload_n hx hb d_law_554 rfl (lv_at hl 0 rfl) ?_
  refine lv_iconst (v := 2) hx hb d_law_555 (by decide) ?_
  refine lv_iadd hx hb d_law_556 ?_
  refine va_sld hx hb hX hbl hbA hS (vp_lit (by decide)) d_law_557 ?_
  have hPc := hP.sub (ws' := [(h1, .inr (0, XF)), (xf, .inr (10, XS)), (xa, .inl (cB, 8000, .inl fxa))]) [0, 1, 2] rfl
  have hDc := hD.sub (ws' := [(h1, .inr (0, XF)), (xf, .inr (10, XS)), (xa, .inl (cB, 8000, .inl fxa))]) [0, 1, 2] (by decide) rfl
  have hFc := va_free (wc := [(h1, .inr (0, XF)), (xf, .inr (10, XS)), (xa, .inl (cB, 8000, .inl fxa))]) hD hS hA [0, 1, 2] rfl
  refine va_calli (va_runV (C := R_V) (As := [.int (xs ((0 + 1) : Int32).toNatClampNeg), .int (xs ((0 + 2) : Int32).toNatClampNeg)]) (rest := []) ⟨hx, hb, hml, hown, hT⟩ (c_V_kind l dC dI cI cB cJ cZ H.size h1 XF xf XS xa fxa 0 0 (xs ((0 + 1) : Int32).toNatClampNeg) 0 (xs ((0 + 2) : Int32).toNatClampNeg) 0 nXF gXF_12 nXS gXS_0 gXS_6 gXS_1 gXS_7 gXS_8 (by decide) (by decide)) ⟨callB_of 2 hT (gw_in w_8_146) rfl rfl rfl (hT _ w_1_1) (hT _ w_8_143) (by decide +kernel) ⟨Nat.le_of_ble_eq_true rfl, Nat.le_of_ble_eq_true rfl⟩, hT _ w_8_144, hT _ w_8_145⟩ ⟨PC.blind, va_recv hK hPc (ci := 0) (q0 := 0) rfl rfl, PC.at _ hPc hDc hK hN⟩ rfl rfl hl.1 rfl (lv_room (Nat.le_of_ble_eq_true rfl)) d_law_558 ⟨show _ ≤ 600000 by omega, show _ ≤ 7302250 by omega⟩) hS (fun q _ h => hFc q h) hFc (fun r1 u t H1 locs ht hvm hw hB hz1 hk1 hS => ?_)
  have hw : (if sp_place 0 0 (xs ((0 + 1) : Int32).toNatClampNeg) 0 (xs ((0 + 2) : Int32).toNatClampNeg) 0 = -1 then -1 else fxa (sp_place 0 0 (xs ((0 + 1) : Int32).toNatClampNeg) 0 (xs ((0 + 2) : Int32).toNatClampNeg) 0).toNatClampNeg) = r1 := Eq.symm hw
  subst hw
  obtain ⟨hP, hD⟩ := va_join (wr := [(h2, .inr (12, YF))]) (w1 := []) hP hD [0, 1, 2] [3] rfl rfl (by decide) (by decide) hk1 hFc nilP nilD
  generalize H1 = H at hP hS ⊢
  have hP : va_P (dC, dI) CL [(h2, .inr (12, YF))] H := hP
  have hD : va_D A [(h2, .inr (12, YF))] := hD
  refine lv_aload_n hx hb d_law_561 rfl (lv_at hl 1 rfl) ?_
  refine lv_aload_n hx hb d_law_562 rfl (lv_at hl 3 rfl) ?_
  refine lv_iload_n hx hb d_law_563 rfl (lv_at hl 0 rfl) ?_
  refine lv_iconst (v := 1) hx hb d_law_564 (by decide) ?_
  refine lv_iadd hx hb d_law_565 ?_
  refine va_sld hx hb hX hbl hbA hS (vp_lit (by decide)) d_law_566 ?_
  refine lv_aload_n hx hb d_law_567 rfl (lv_at hl 3 rfl) ?_
  refine lv_iload_n hx hb d_law_568 rfl (lv_at hl 0 rfl) ?_
  refine lv_iconst (v := 2) hx hb d_law_569 (by decide) ?_
  refine lv_iadd hx hb d_law_570 ?_
  refine va_sld hx hb hX hbl hbA hS (vp_lit (by decide)) d_law_571 ?_
  have hPc := hP.sub (ws' := [(h2, .inr (12, YF))]) [0] rfl
  have hDc := hD.sub (ws' := [(h2, .inr (12, YF))]) [0] (by decide) rfl
  have hFc := va_free (wc := [(h2, .inr (12, YF))]) hD hS hA [0] rfl
  refine va_calli (va_runV (C := R_Mod) (As := [.int (xs ((0 + 1) : Int32).toNatClampNeg), .int (xs ((0 + 2) : Int32).toNatClampNeg)]) (rest := [.int (if sp_place 0 0 (xs ((0 + 1) : Int32).toNatClampNeg) 0 (xs ((0 + 2) : Int32).toNatClampNeg) 0 = -1 then -1 else fxa (sp_place 0 0 (xs ((0 + 1) : Int32).toNatClampNeg) 0 (xs ((0 + 2) : Int32).toNatClampNeg) 0).toNatClampNeg)]) ⟨hx, hb, hml, hown, hT⟩ (c_Mod_kind_none l dC dI cI cB cJ cZ H.size h2 YF (xs ((0 + 1) : Int32).toNatClampNeg) (xs ((0 + 2) : Int32).toNatClampNeg) nYF gYF_121) ⟨callB_of 2 hT (gw_in w_14_67) rfl rfl rfl (hT _ w_1_15) (hT _ w_14_64) (by decide +kernel) ⟨Nat.le_of_ble_eq_true rfl, Nat.le_of_ble_eq_true rfl⟩, hT _ w_14_65, hT _ w_14_66⟩ ⟨PC.blind, va_recv hK hPc (ci := 12) (q0 := 0) rfl rfl, PC.at _ hPc hDc hK hN⟩ rfl rfl hl.1 rfl (lv_room (Nat.le_of_ble_eq_true rfl)) d_law_572 ⟨show _ ≤ 600000 by omega, show _ ≤ 7302250 by omega⟩) hS (fun q _ h => hFc q h) hFc (fun r2 u t H1 locs ht hvm hw hB hz1 hk1 hS => ?_)
  have hw : ((-1)) = r2 := Eq.symm hw
  subst hw
  obtain ⟨hP, hD⟩ := va_join (wr := []) (w1 := []) hP hD [0] [] rfl rfl (by decide) (by decide) hk1 hFc nilP nilD
  generalize H1 = H at hP hS ⊢
  have hP : va_P (dC, dI) CL [] H := hP
  have hD : va_D A [] := hD
  refine lv_icmp_eq (tgt := 703) hx hb d_law_575 (by decide) (fun c1 => ?_) (fun c1 => absurd (by simp [sp_place]) c1)
  exact lb_done C0 hA2 hbA hS hl
set_option maxHeartbeats 4000000 in
set_option maxRecDepth 100000 in
/-- the turn of case 20 -/
theorem lb_20 {p : Program} {l : Launch} {e : Env} {s : State} {m : MethodId} {below : List Frame} {meth : Method} {c : Code} {b : Nat} {xs : Nat → Int32} {A : Nat → Prop} {dC : Nat → ClassId} {dI : Nat → Nat → Nat} {cI cB cJ cZ : ClassId} (C0 : lw_At p s m meth c b 6 xs) (hA : ∀ q, s.heap.size ≤ q → A q) (hA2 : ∀ q, A q → s.heap.size ≤ q) (hbA : ¬ A b) (hK : va_K (dC, dI) CL (TY cI cB cJ cZ) s) {h1 h2 xf xa xb : Nat} {XF XS YF : List Value} {fxa : Nat → Int32} {fxb : Nat → Int64} {H : Heap} {locs : List Loc} {ls : Array Slot} (hP : va_P (dC, dI) CL [(h1, .inr (0, XF)), (xf, .inr (10, XS)), (xa, .inl (cB, 8000, .inl fxa)), (xb, .inl (cJ, 8000, .inr (.inl fxb))), (h2, .inr (12, YF))] H) (hD : va_D A [(h1, .inr (0, XF)), (xf, .inr (10, XS)), (xa, .inl (cB, 8000, .inl fxa)), (xb, .inl (cJ, 8000, .inr (.inl fxb))), (h2, .inr (12, YF))]) (hS : va_S A s.heap H locs) (hl : lv_has ls 4 [(3, .int 0), (2, .ref h2), (1, .ref h1), (0, .ref b)]) (nXF : XF.length = 15) (gXF_12 : XF[12]? = some (.ref xf)) (nXS : XS.length = 16) (gXS_0 : XS[0]? = some (.int 0)) (gXS_6 : XS[6]? = some (.int 0)) (gXS_1 : XS[1]? = some (.int 0)) (gXS_7 : XS[7]? = some (.int 0)) (gXS_8 : XS[8]? = some (.ref xa)) (gXS_9 : XS[9]? = some (.ref xb)) (nYF : YF.length = 167) (gYF_121 : YF[121]? = some (.int 0)) : W p l e room_1 s m #[Value.ref b] below meth c H locs 267 1600544 (lw_Z below #[Value.ref b] s) (F0 m 580 ls []) := by
  obtain ⟨hx, hb, hr, hml, hown0, hts, hX, hbl, hlocks, hgv⟩ := id C0
  have hown : s.vm.findClass R_Law = some m.cls := hown0
  have hT : ∀ w ∈ TG, w.before #[Value.ref b] s = true := fun w h => hts w (TG_lw w h)
  have hN : NW s := NW.of hts
  have hSW : SW s := SW.of hts
  refine lv_aload_n hx hb d_law_580 rfl (lv_at hl 2 rfl) ?_
  refine lv_aload_n hx hb d_law_581 rfl (lv_at hl 3 rfl) ?_
  refine lv_iload_n hx hb d_law_582 rfl (lv_at hl 0 rfl) ?_
  refine lv_iconst (v := 1) hx hb d_law_583 (by decide) ?_
  refine lv_iadd hx hb d_law_584 ?_
  refine va_sld hx hb hX hbl hbA hS (vp_lit (by decide)) d_law_585 ?_
  refine lv_aload_n hx hb d_law_586 rfl (lv_at hl 3 rfl) ?_
  refine lv_iload_n hx hb d_law_587 rfl (lv_at hl 0 rfl) ?_
  refine lv_iconst (v := 2) hx hb d_law_588 (by decide) ?_
  refine lv_iadd hx hb d_law_589 ?_
  refine va_sld hx hb hX hbl hbA hS (vp_lit (by decide)) d_law_590 ?_
  have hPc := hP.sub (ws' := [(h1, .inr (0, XF)), (xf, .inr (10, XS)), (xa, .inl (cB, 8000, .inl fxa)), (xb, .inl (cJ, 8000, .inr (.inl fxb)))]) [0, 1, 2, 3] rfl
  have hDc := hD.sub (ws' := [(h1, .inr (0, XF)), (xf, .inr (10, XS)), (xa, .inl (cB, 8000, .inl fxa)), (xb, .inl (cJ, 8000, .inr (.inl fxb)))]) [0, 1, 2, 3] (by decide) rfl
  have hFc := va_free (wc := [(h1, .inr (0, XF)), (xf, .inr (10, XS)), (xa, .inl (cB, 8000, .inl fxa)), (xb, .inl (cJ, 8000, .inr (.inl fxb)))]) hD hS hA [0, 1, 2, 3] rfl
  refine va_calll (va_runV (C := R_V) (As := [.int (xs ((0 + 1) : Int32).toNatClampNeg), .int (xs ((0 + 2) : Int32).toNatClampNeg)]) (rest := []) ⟨hx, hb, hml, hown, hT⟩ (c_V_value l dC dI cI cB cJ cZ H.size h1 XF xf XS xa xb fxa fxb 0 0 (xs ((0 + 1) : Int32).toNatClampNeg) 0 (xs ((0 + 2) : Int32).toNatClampNeg) 0 nXF gXF_12 nXS gXS_0 gXS_6 gXS_1 gXS_7 gXS_8 gXS_9 (by decide) (by decide)) ⟨callB_of 2 hT (gw_in w_8_154) rfl rfl rfl (hT _ w_1_1) (hT _ w_8_151) (by decide +kernel) ⟨Nat.le_of_ble_eq_true rfl, Nat.le_of_ble_eq_true rfl⟩, hT _ w_8_152, hT _ w_8_153⟩ ⟨PC.blind, va_recv hK hPc (ci := 0) (q0 := 0) rfl rfl, PC.at _ hPc hDc hK hN⟩ rfl rfl hl.1 rfl (lv_room (Nat.le_of_ble_eq_true rfl)) d_law_591 ⟨show _ ≤ 600000 by omega, show _ ≤ 7302250 by omega⟩) hS (fun q _ h => hFc q h) hFc (fun r1 u t H1 locs ht hvm hw hB hz1 hk1 hS => ?_)
  have hw : (if sp_place 0 0 (xs ((0 + 1) : Int32).toNatClampNeg) 0 (xs ((0 + 2) : Int32).toNatClampNeg) 0 = -1 then 0 else if fxa (sp_place 0 0 (xs ((0 + 1) : Int32).toNatClampNeg) 0 (xs ((0 + 2) : Int32).toNatClampNeg) 0).toNatClampNeg = 0 then 0 else if fxa (sp_place 0 0 (xs ((0 + 1) : Int32).toNatClampNeg) 0 (xs ((0 + 2) : Int32).toNatClampNeg) 0).toNatClampNeg = 3 then 0 else fxb (sp_place 0 0 (xs ((0 + 1) : Int32).toNatClampNeg) 0 (xs ((0 + 2) : Int32).toNatClampNeg) 0).toNatClampNeg) = r1 := Eq.symm hw
  subst hw
  obtain ⟨hP, hD⟩ := va_join (wr := [(h2, .inr (12, YF))]) (w1 := []) hP hD [0, 1, 2, 3] [4] rfl rfl (by decide) (by decide) hk1 hFc nilP nilD
  generalize H1 = H at hP hS ⊢
  have hP : va_P (dC, dI) CL [(h2, .inr (12, YF))] H := hP
  have hD : va_D A [(h2, .inr (12, YF))] := hD
  refine lv_aload_n hx hb d_law_594 rfl (lv_at hl 1 rfl) ?_
  refine lv_aload_n hx hb d_law_595 rfl (lv_at hl 3 rfl) ?_
  refine lv_iload_n hx hb d_law_596 rfl (lv_at hl 0 rfl) ?_
  refine lv_iconst (v := 1) hx hb d_law_597 (by decide) ?_
  refine lv_iadd hx hb d_law_598 ?_
  refine va_sld hx hb hX hbl hbA hS (vp_lit (by decide)) d_law_599 ?_
  refine lv_aload_n hx hb d_law_600 rfl (lv_at hl 3 rfl) ?_
  refine lv_iload_n hx hb d_law_601 rfl (lv_at hl 0 rfl) ?_
  refine lv_iconst (v := 2) hx hb d_law_602 (by decide) ?_
  refine lv_iadd hx hb d_law_603 ?_
  refine va_sld hx hb hX hbl hbA hS (vp_lit (by decide)) d_law_604 ?_
  have hPc := hP.sub (ws' := [(h2, .inr (12, YF))]) [0] rfl
  have hDc := hD.sub (ws' := [(h2, .inr (12, YF))]) [0] (by decide) rfl
  have hFc := va_free (wc := [(h2, .inr (12, YF))]) hD hS hA [0] rfl
  refine va_calll (va_runV (C := R_Mod) (As := [.int (xs ((0 + 1) : Int32).toNatClampNeg), .int (xs ((0 + 2) : Int32).toNatClampNeg)]) (rest := [.long (if sp_place 0 0 (xs ((0 + 1) : Int32).toNatClampNeg) 0 (xs ((0 + 2) : Int32).toNatClampNeg) 0 = -1 then 0 else if fxa (sp_place 0 0 (xs ((0 + 1) : Int32).toNatClampNeg) 0 (xs ((0 + 2) : Int32).toNatClampNeg) 0).toNatClampNeg = 0 then 0 else if fxa (sp_place 0 0 (xs ((0 + 1) : Int32).toNatClampNeg) 0 (xs ((0 + 2) : Int32).toNatClampNeg) 0).toNatClampNeg = 3 then 0 else fxb (sp_place 0 0 (xs ((0 + 1) : Int32).toNatClampNeg) 0 (xs ((0 + 2) : Int32).toNatClampNeg) 0).toNatClampNeg)]) ⟨hx, hb, hml, hown, hT⟩ (c_Mod_value_none l dC dI cI cB cJ cZ H.size h2 YF (xs ((0 + 1) : Int32).toNatClampNeg) (xs ((0 + 2) : Int32).toNatClampNeg) nYF gYF_121) ⟨callB_of 2 hT (gw_in w_14_83) rfl rfl rfl (hT _ w_1_15) (hT _ w_14_80) (by decide +kernel) ⟨Nat.le_of_ble_eq_true rfl, Nat.le_of_ble_eq_true rfl⟩, hT _ w_14_81, hT _ w_14_82⟩ ⟨PC.blind, va_recv hK hPc (ci := 12) (q0 := 0) rfl rfl, PC.at _ hPc hDc hK hN⟩ rfl rfl hl.1 rfl (lv_room (Nat.le_of_ble_eq_true rfl)) d_law_605 ⟨show _ ≤ 600000 by omega, show _ ≤ 7302250 by omega⟩) hS (fun q _ h => hFc q h) hFc (fun r2 u t H1 locs ht hvm hw hB hz1 hk1 hS => ?_)
  have hw : (0) = r2 := Eq.symm hw
  subst hw
  obtain ⟨hP, hD⟩ := va_join (wr := []) (w1 := []) hP hD [0] [] rfl rfl (by decide) (by decide) hk1 hFc nilP nilD
  generalize H1 = H at hP hS ⊢
  have hP : va_P (dC, dI) CL [] H := hP
  have hD : va_D A [] := hD
  refine W.lcmp hx hb d_law_608 ?_
  refine lv_if_eq (tgt := 703) hx hb d_law_609 (by decide) (fun c1 => ?_) (fun c1 => absurd (by simp [sp_place, lg_cmp]) c1)
  exact lb_done C0 hA2 hbA hS hl
set_option maxHeartbeats 4000000 in
set_option maxRecDepth 100000 in
/-- the turn of case 21 -/
theorem lb_21 {p : Program} {l : Launch} {e : Env} {s : State} {m : MethodId} {below : List Frame} {meth : Method} {c : Code} {b : Nat} {xs : Nat → Int32} {A : Nat → Prop} {dC : Nat → ClassId} {dI : Nat → Nat → Nat} {cI cB cJ cZ : ClassId} (C0 : lw_At p s m meth c b 6 xs) (hA : ∀ q, s.heap.size ≤ q → A q) (hA2 : ∀ q, A q → s.heap.size ≤ q) (hbA : ¬ A b) (hK : va_K (dC, dI) CL (TY cI cB cJ cZ) s) {h1 h2 xa0 : Nat} {XF XAa YF : List Value} {H : Heap} {locs : List Loc} {ls : Array Slot} (hP : va_P (dC, dI) CL [(h1, .inr (0, XF)), (xa0, .inr (10, XAa)), (h2, .inr (12, YF))] H) (hD : va_D A [(h1, .inr (0, XF)), (xa0, .inr (10, XAa)), (h2, .inr (12, YF))]) (hS : va_S A s.heap H locs) (hl : lv_has ls 4 [(3, .int 0), (2, .ref h2), (1, .ref h1), (0, .ref b)]) (nXF : XF.length = 15) (gXF_12 : XF[12]? = some (.ref xa0)) (nXAa : XAa.length = 16) (gXAa_0 : XAa[0]? = some (.int 0)) (gXAa_6 : XAa[6]? = some (.int 0)) (gXAa_1 : XAa[1]? = some (.int 0)) (gXAa_7 : XAa[7]? = some (.int 0)) (nYF : YF.length = 167) (gYF_121 : YF[121]? = some (.int 0)) : W p l e room_1 s m #[Value.ref b] below meth c H locs 267 1600544 (lw_Z below #[Value.ref b] s) (F0 m 614 ls []) := by
  obtain ⟨hx, hb, hr, hml, hown0, hts, hX, hbl, hlocks, hgv⟩ := id C0
  have hown : s.vm.findClass R_Law = some m.cls := hown0
  have hT : ∀ w ∈ TG, w.before #[Value.ref b] s = true := fun w h => hts w (TG_lw w h)
  have hN : NW s := NW.of hts
  have hSW : SW s := SW.of hts
  refine lv_aload_n hx hb d_law_614 rfl (lv_at hl 2 rfl) ?_
  refine lv_aload_n hx hb d_law_615 rfl (lv_at hl 3 rfl) ?_
  refine lv_iload_n hx hb d_law_616 rfl (lv_at hl 0 rfl) ?_
  refine lv_iconst (v := 1) hx hb d_law_617 (by decide) ?_
  refine lv_iadd hx hb d_law_618 ?_
  refine va_sld hx hb hX hbl hbA hS (vp_lit (by decide)) d_law_619 ?_
  refine lv_aload_n hx hb d_law_620 rfl (lv_at hl 3 rfl) ?_
  refine lv_iload_n hx hb d_law_621 rfl (lv_at hl 0 rfl) ?_
  refine lv_iconst (v := 2) hx hb d_law_622 (by decide) ?_
  refine lv_iadd hx hb d_law_623 ?_
  refine va_sld hx hb hX hbl hbA hS (vp_lit (by decide)) d_law_624 ?_
  refine lv_aload_n hx hb d_law_625 rfl (lv_at hl 3 rfl) ?_
  refine lv_iload_n hx hb d_law_626 rfl (lv_at hl 0 rfl) ?_
  refine lv_iconst (v := 3) hx hb d_law_627 (by decide) ?_
  refine lv_iadd hx hb d_law_628 ?_
  refine va_sld hx hb hX hbl hbA hS (vp_lit (by decide)) d_law_629 ?_
  have hPc := hP.sub (ws' := [(h1, .inr (0, XF)), (xa0, .inr (10, XAa))]) [0, 1] rfl
  have hDc := hD.sub (ws' := [(h1, .inr (0, XF)), (xa0, .inr (10, XAa))]) [0, 1] (by decide) rfl
  have hFc := va_free (wc := [(h1, .inr (0, XF)), (xa0, .inr (10, XAa))]) hD hS hA [0, 1] rfl
  refine va_calli (va_runV (C := R_V) (As := [.int (xs ((0 + 1) : Int32).toNatClampNeg), .int (xs ((0 + 2) : Int32).toNatClampNeg), .int (xs ((0 + 3) : Int32).toNatClampNeg)]) (rest := []) ⟨hx, hb, hml, hown, hT⟩ (c_V_letter_none l dC dI cI cB cJ cZ H.size h1 XF xa0 XAa 0 0 0 (xs ((0 + 1) : Int32).toNatClampNeg) (xs ((0 + 2) : Int32).toNatClampNeg) (xs ((0 + 3) : Int32).toNatClampNeg) nXF gXF_12 nXAa gXAa_0 gXAa_6 gXAa_1 gXAa_7) ⟨callB_of 3 hT (gw_in w_8_158) rfl rfl rfl (hT _ w_1_1) (hT _ w_8_155) (by decide +kernel) ⟨Nat.le_of_ble_eq_true rfl, Nat.le_of_ble_eq_true rfl⟩, hT _ w_8_156, hT _ w_8_157⟩ ⟨PC.blind, va_recv hK hPc (ci := 0) (q0 := 0) rfl rfl, PC.at _ hPc hDc hK hN⟩ rfl rfl hl.1 rfl (lv_room (Nat.le_of_ble_eq_true rfl)) d_law_630 ⟨show _ ≤ 600000 by omega, show _ ≤ 7302250 by omega⟩) hS (fun q _ h => hFc q h) hFc (fun r1 u t H1 locs ht hvm hw hB hz1 hk1 hS => ?_)
  have hw : ((-1)) = r1 := Eq.symm hw
  subst hw
  obtain ⟨hP, hD⟩ := va_join (wr := [(h2, .inr (12, YF))]) (w1 := []) hP hD [0, 1] [2] rfl rfl (by decide) (by decide) hk1 hFc nilP nilD
  generalize H1 = H at hP hS ⊢
  have hP : va_P (dC, dI) CL [(h2, .inr (12, YF))] H := hP
  have hD : va_D A [(h2, .inr (12, YF))] := hD
  refine lv_aload_n hx hb d_law_633 rfl (lv_at hl 1 rfl) ?_
  refine lv_aload_n hx hb d_law_634 rfl (lv_at hl 3 rfl) ?_
  refine lv_iload_n hx hb d_law_635 rfl (lv_at hl 0 rfl) ?_
  refine lv_iconst (v := 1) hx hb d_law_636 (by decide) ?_
  refine lv_iadd hx hb d_law_637 ?_
  refine va_sld hx hb hX hbl hbA hS (vp_lit (by decide)) d_law_638 ?_
  refine lv_aload_n hx hb d_law_639 rfl (lv_at hl 3 rfl) ?_
  refine lv_iload_n hx hb d_law_640 rfl (lv_at hl 0 rfl) ?_
  refine lv_iconst (v := 2) hx hb d_law_641 (by decide) ?_
  refine lv_iadd hx hb d_law_642 ?_
  refine va_sld hx hb hX hbl hbA hS (vp_lit (by decide)) d_law_643 ?_
  refine lv_aload_n hx hb d_law_644 rfl (lv_at hl 3 rfl) ?_
  refine lv_iload_n hx hb d_law_645 rfl (lv_at hl 0 rfl) ?_
  refine lv_iconst (v := 3) hx hb d_law_646 (by decide) ?_
  refine lv_iadd hx hb d_law_647 ?_
  refine va_sld hx hb hX hbl hbA hS (vp_lit (by decide)) d_law_648 ?_
  have hPc := hP.sub (ws' := [(h2, .inr (12, YF))]) [0] rfl
  have hDc := hD.sub (ws' := [(h2, .inr (12, YF))]) [0] (by decide) rfl
  have hFc := va_free (wc := [(h2, .inr (12, YF))]) hD hS hA [0] rfl
  refine va_calli (va_runV (C := R_Mod) (As := [.int (xs ((0 + 1) : Int32).toNatClampNeg), .int (xs ((0 + 2) : Int32).toNatClampNeg), .int (xs ((0 + 3) : Int32).toNatClampNeg)]) (rest := [.int (-1)]) ⟨hx, hb, hml, hown, hT⟩ (c_Mod_letter_none l dC dI cI cB cJ cZ H.size h2 YF (xs ((0 + 1) : Int32).toNatClampNeg) (xs ((0 + 2) : Int32).toNatClampNeg) (xs ((0 + 3) : Int32).toNatClampNeg) nYF gYF_121) ⟨callB_of 3 hT (gw_in w_14_87) rfl rfl rfl (hT _ w_1_15) (hT _ w_14_84) (by decide +kernel) ⟨Nat.le_of_ble_eq_true rfl, Nat.le_of_ble_eq_true rfl⟩, hT _ w_14_85, hT _ w_14_86⟩ ⟨PC.blind, va_recv hK hPc (ci := 12) (q0 := 0) rfl rfl, PC.at _ hPc hDc hK hN⟩ rfl rfl hl.1 rfl (lv_room (Nat.le_of_ble_eq_true rfl)) d_law_649 ⟨show _ ≤ 600000 by omega, show _ ≤ 7302250 by omega⟩) hS (fun q _ h => hFc q h) hFc (fun r2 u t H1 locs ht hvm hw hB hz1 hk1 hS => ?_)
  have hw : ((-1)) = r2 := Eq.symm hw
  subst hw
  obtain ⟨hP, hD⟩ := va_join (wr := []) (w1 := []) hP hD [0] [] rfl rfl (by decide) (by decide) hk1 hFc nilP nilD
  generalize H1 = H at hP hS ⊢
  have hP : va_P (dC, dI) CL [] H := hP
  have hD : va_D A [] := hD
  refine lv_icmp_eq (tgt := 703) hx hb d_law_652 (by decide) (fun c1 => ?_) (fun c1 => by first | exact absurd c1 (by decide) | exact absurd (by decide) c1)
  exact lb_done C0 hA2 hbA hS hl
set_option maxHeartbeats 4000000 in
set_option maxRecDepth 100000 in
/-- the turn of case 22 -/
theorem lb_22 {p : Program} {l : Launch} {e : Env} {s : State} {m : MethodId} {below : List Frame} {meth : Method} {c : Code} {b : Nat} {xs : Nat → Int32} {A : Nat → Prop} {dC : Nat → ClassId} {dI : Nat → Nat → Nat} {cI cB cJ cZ : ClassId} (C0 : lw_At p s m meth c b 6 xs) (hA : ∀ q, s.heap.size ≤ q → A q) (hA2 : ∀ q, A q → s.heap.size ≤ q) (hbA : ¬ A b) (hK : va_K (dC, dI) CL (TY cI cB cJ cZ) s) {h1 h2 xf : Nat} {XF XS YF : List Value} {H : Heap} {locs : List Loc} {ls : Array Slot} (hP : va_P (dC, dI) CL [(h1, .inr (0, XF)), (xf, .inr (10, XS)), (h2, .inr (12, YF))] H) (hD : va_D A [(h1, .inr (0, XF)), (xf, .inr (10, XS)), (h2, .inr (12, YF))]) (hS : va_S A s.heap H locs) (hl : lv_has ls 4 [(3, .int 0), (2, .ref h2), (1, .ref h1), (0, .ref b)]) (nXF : XF.length = 15) (gXF_12 : XF[12]? = some (.ref xf)) (nXS : XS.length = 16) (gXS_0 : XS[0]? = some (.int 0)) (gXS_2 : XS[2]? = some (.int 0)) (gXS_3 : XS[3]? = some (.int 0)) (nYF : YF.length = 167) (gYF_121 : YF[121]? = some (.int 0)) (gYF_163 : YF[163]? = some (.int 0)) (gYF_164 : YF[164]? = some (.int 0)) : W p l e room_1 s m #[Value.ref b] below meth c H locs 267 1600544 (lw_Z below #[Value.ref b] s) (F0 m 657 ls []) := by
  obtain ⟨hx, hb, hr, hml, hown0, hts, hX, hbl, hlocks, hgv⟩ := id C0
  have hown : s.vm.findClass R_Law = some m.cls := hown0
  have hT : ∀ w ∈ TG, w.before #[Value.ref b] s = true := fun w h => hts w (TG_lw w h)
  have hN : NW s := NW.of hts
  have hSW : SW s := SW.of hts
  refine lv_aload_n hx hb d_law_657 rfl (lv_at hl 2 rfl) ?_
  refine lv_aload_n hx hb d_law_658 rfl (lv_at hl 3 rfl) ?_
  refine lv_iload_n hx hb d_law_659 rfl (lv_at hl 0 rfl) ?_
  refine lv_iconst (v := 1) hx hb d_law_660 (by decide) ?_
  refine lv_iadd hx hb d_law_661 ?_
  refine va_sld hx hb hX hbl hbA hS (vp_lit (by decide)) d_law_662 ?_
  have hPc := hP.sub (ws' := [(h1, .inr (0, XF)), (xf, .inr (10, XS))]) [0, 1] rfl
  have hDc := hD.sub (ws' := [(h1, .inr (0, XF)), (xf, .inr (10, XS))]) [0, 1] (by decide) rfl
  have hFc := va_free (wc := [(h1, .inr (0, XF)), (xf, .inr (10, XS))]) hD hS hA [0, 1] rfl
  refine va_calli (va_runV (C := R_V) (As := [.int (xs ((0 + 1) : Int32).toNatClampNeg)]) (rest := []) ⟨hx, hb, hml, hown, hT⟩ (c_V_skipped l dC dI cI cB cJ cZ H.size h1 XF xf XS (xs ((0 + 1) : Int32).toNatClampNeg) 0 0 0 nXF gXF_12 nXS gXS_0 gXS_2 gXS_3) ⟨callB_of 1 hT (gw_in w_8_164) rfl rfl rfl (hT _ w_1_1) (hT _ w_8_161) (by decide +kernel) ⟨Nat.le_of_ble_eq_true rfl, Nat.le_of_ble_eq_true rfl⟩, hT _ w_8_162, hT _ w_8_163⟩ ⟨PC.blind, va_recv hK hPc (ci := 0) (q0 := 0) rfl rfl, PC.at _ hPc hDc hK hN⟩ rfl rfl hl.1 rfl (lv_room (Nat.le_of_ble_eq_true rfl)) d_law_663 ⟨show _ ≤ 600000 by omega, show _ ≤ 7302250 by omega⟩) hS (fun q _ h => hFc q h) hFc (fun r1 u t H1 locs ht hvm hw hB hz1 hk1 hS => ?_)
  have hw : (sp_skip (xs ((0 + 1) : Int32).toNatClampNeg) 0 0 0) = r1 := Eq.symm hw
  subst hw
  obtain ⟨hP, hD⟩ := va_join (wr := [(h2, .inr (12, YF))]) (w1 := []) hP hD [0, 1] [2] rfl rfl (by decide) (by decide) hk1 hFc nilP nilD
  generalize H1 = H at hP hS ⊢
  have hP : va_P (dC, dI) CL [(h2, .inr (12, YF))] H := hP
  have hD : va_D A [(h2, .inr (12, YF))] := hD
  refine lv_aload_n hx hb d_law_666 rfl (lv_at hl 1 rfl) ?_
  refine lv_aload_n hx hb d_law_667 rfl (lv_at hl 3 rfl) ?_
  refine lv_iload_n hx hb d_law_668 rfl (lv_at hl 0 rfl) ?_
  refine lv_iconst (v := 1) hx hb d_law_669 (by decide) ?_
  refine lv_iadd hx hb d_law_670 ?_
  refine va_sld hx hb hX hbl hbA hS (vp_lit (by decide)) d_law_671 ?_
  have hPc := hP.sub (ws' := [(h2, .inr (12, YF))]) [0] rfl
  have hDc := hD.sub (ws' := [(h2, .inr (12, YF))]) [0] (by decide) rfl
  have hFc := va_free (wc := [(h2, .inr (12, YF))]) hD hS hA [0] rfl
  refine va_calli (va_runV (C := R_Mod) (As := [.int (xs ((0 + 1) : Int32).toNatClampNeg)]) (rest := [.int (sp_skip (xs ((0 + 1) : Int32).toNatClampNeg) 0 0 0)]) ⟨hx, hb, hml, hown, hT⟩ (c_Mod_skipped l dC dI cI cB cJ cZ H.size h2 YF (xs ((0 + 1) : Int32).toNatClampNeg) 0 0 0 nYF gYF_121 gYF_163 gYF_164) ⟨callB_of 1 hT (gw_in w_14_91) rfl rfl rfl (hT _ w_1_15) (hT _ w_14_88) (by decide +kernel) ⟨Nat.le_of_ble_eq_true rfl, Nat.le_of_ble_eq_true rfl⟩, hT _ w_14_89, hT _ w_14_90⟩ ⟨PC.blind, va_recv hK hPc (ci := 12) (q0 := 0) rfl rfl, PC.at _ hPc hDc hK hN⟩ rfl rfl hl.1 rfl (lv_room (Nat.le_of_ble_eq_true rfl)) d_law_672 ⟨show _ ≤ 600000 by omega, show _ ≤ 7302250 by omega⟩) hS (fun q _ h => hFc q h) hFc (fun r2 u t H1 locs ht hvm hw hB hz1 hk1 hS => ?_)
  have hw : (sp_skip (xs ((0 + 1) : Int32).toNatClampNeg) 0 0 0) = r2 := Eq.symm hw
  subst hw
  obtain ⟨hP, hD⟩ := va_join (wr := []) (w1 := []) hP hD [0] [] rfl rfl (by decide) (by decide) hk1 hFc nilP nilD
  generalize H1 = H at hP hS ⊢
  have hP : va_P (dC, dI) CL [] H := hP
  have hD : va_D A [] := hD
  refine lv_icmp_eq (tgt := 703) hx hb d_law_675 (by decide) (fun c1 => ?_) (fun c1 => absurd rfl c1)
  exact lb_done C0 hA2 hbA hS hl
set_option maxHeartbeats 4000000 in
set_option maxRecDepth 100000 in
/-- the turn of case 23 -/
theorem lb_23 {p : Program} {l : Launch} {e : Env} {s : State} {m : MethodId} {below : List Frame} {meth : Method} {c : Code} {b : Nat} {xs : Nat → Int32} {A : Nat → Prop} {dC : Nat → ClassId} {dI : Nat → Nat → Nat} {cI cB cJ cZ : ClassId} (C0 : lw_At p s m meth c b 6 xs) (hA : ∀ q, s.heap.size ≤ q → A q) (hA2 : ∀ q, A q → s.heap.size ≤ q) (hbA : ¬ A b) (hK : va_K (dC, dI) CL (TY cI cB cJ cZ) s) {h1 h2 xf xo xa ya : Nat} {XF XS XO YF : List Value} {fxa fya : Nat → Int32} {H : Heap} {locs : List Loc} {ls : Array Slot} (hP : va_P (dC, dI) CL [(h1, .inr (0, XF)), (xf, .inr (11, XS)), (xo, .inr (1, XO)), (xa, .inl (cB, 512, .inl fxa)), (h2, .inr (12, YF)), (ya, .inl (cB, 100000, .inl fya))] H) (hD : va_D A [(h1, .inr (0, XF)), (xf, .inr (11, XS)), (xo, .inr (1, XO)), (xa, .inl (cB, 512, .inl fxa)), (h2, .inr (12, YF)), (ya, .inl (cB, 100000, .inl fya))]) (hS : va_S A s.heap H locs) (hl : lv_has ls 4 [(3, .int 0), (2, .ref h2), (1, .ref h1), (0, .ref b)]) (nXF : XF.length = 15) (gXF_14 : XF[14]? = some (.ref xf)) (nXS : XS.length = 4) (gXS_0 : XS[0]? = some (.ref xo)) (nXO : XO.length = 7) (gXO_1 : XO[1]? = some (.int 0)) (gXO_0 : XO[0]? = some (.ref xa)) (nYF : YF.length = 167) (gYF_113 : YF[113]? = some (.int 0)) (gYF_112 : YF[112]? = some (.ref ya)) : W p l e room_1 s m #[Value.ref b] below meth c H locs 267 1600544 (lw_Z below #[Value.ref b] s) (F0 m 680 ls []) := by
  obtain ⟨hx, hb, hr, hml, hown0, hts, hX, hbl, hlocks, hgv⟩ := id C0
  have hown : s.vm.findClass R_Law = some m.cls := hown0
  have hT : ∀ w ∈ TG, w.before #[Value.ref b] s = true := fun w h => hts w (TG_lw w h)
  have hN : NW s := NW.of hts
  have hSW : SW s := SW.of hts
  refine lv_aload_n hx hb d_law_680 rfl (lv_at hl 2 rfl) ?_
  refine lv_aload_n hx hb d_law_681 rfl (lv_at hl 3 rfl) ?_
  refine lv_iload_n hx hb d_law_682 rfl (lv_at hl 0 rfl) ?_
  refine lv_iconst (v := 1) hx hb d_law_683 (by decide) ?_
  refine lv_iadd hx hb d_law_684 ?_
  refine va_sld hx hb hX hbl hbA hS (vp_lit (by decide)) d_law_685 ?_
  have hPc := hP.sub (ws' := [(h1, .inr (0, XF)), (xf, .inr (11, XS)), (xo, .inr (1, XO)), (xa, .inl (cB, 512, .inl fxa))]) [0, 1, 2, 3] rfl
  have hDc := hD.sub (ws' := [(h1, .inr (0, XF)), (xf, .inr (11, XS)), (xo, .inr (1, XO)), (xa, .inl (cB, 512, .inl fxa))]) [0, 1, 2, 3] (by decide) rfl
  have hFc := va_free (wc := [(h1, .inr (0, XF)), (xf, .inr (11, XS)), (xo, .inr (1, XO)), (xa, .inl (cB, 512, .inl fxa))]) hD hS hA [0, 1, 2, 3] rfl
  refine va_calli (va_runV (C := R_V) (As := [.int (xs ((0 + 1) : Int32).toNatClampNeg)]) (rest := []) ⟨hx, hb, hml, hown, hT⟩ (c_V_output l dC dI cI cB cJ cZ H.size h1 XF xf XS xo XO xa 512 fxa (xs ((0 + 1) : Int32).toNatClampNeg) 0 nXF gXF_14 nXS gXS_0 nXO gXO_1 gXO_0 (by decide)) ⟨callB_of 1 hT (gw_in w_8_168) rfl rfl rfl (hT _ w_1_1) (hT _ w_8_165) (by decide +kernel) ⟨Nat.le_of_ble_eq_true rfl, Nat.le_of_ble_eq_true rfl⟩, hT _ w_8_166, hT _ w_8_167⟩ ⟨PC.blind, va_recv hK hPc (ci := 0) (q0 := 0) rfl rfl, PC.at _ hPc hDc hK hN⟩ rfl rfl hl.1 rfl (lv_room (Nat.le_of_ble_eq_true rfl)) d_law_686 ⟨show _ ≤ 600000 by omega, show _ ≤ 7302250 by omega⟩) hS (fun q _ h => hFc q h) hFc (fun r1 u t H1 locs ht hvm hw hB hz1 hk1 hS => ?_)
  have hw : (sp_at (xs ((0 + 1) : Int32).toNatClampNeg) 0 (fxa (xs ((0 + 1) : Int32).toNatClampNeg).toNatClampNeg &&& 255)) = r1 := Eq.symm hw
  subst hw
  obtain ⟨hP, hD⟩ := va_join (wr := [(h2, .inr (12, YF)), (ya, .inl (cB, 100000, .inl fya))]) (w1 := []) hP hD [0, 1, 2, 3] [4, 5] rfl rfl (by decide) (by decide) hk1 hFc nilP nilD
  generalize H1 = H at hP hS ⊢
  have hP : va_P (dC, dI) CL [(h2, .inr (12, YF)), (ya, .inl (cB, 100000, .inl fya))] H := hP
  have hD : va_D A [(h2, .inr (12, YF)), (ya, .inl (cB, 100000, .inl fya))] := hD
  refine lv_aload_n hx hb d_law_689 rfl (lv_at hl 1 rfl) ?_
  refine lv_aload_n hx hb d_law_690 rfl (lv_at hl 3 rfl) ?_
  refine lv_iload_n hx hb d_law_691 rfl (lv_at hl 0 rfl) ?_
  refine lv_iconst (v := 1) hx hb d_law_692 (by decide) ?_
  refine lv_iadd hx hb d_law_693 ?_
  refine va_sld hx hb hX hbl hbA hS (vp_lit (by decide)) d_law_694 ?_
  have hPc := hP.sub (ws' := [(h2, .inr (12, YF)), (ya, .inl (cB, 100000, .inl fya))]) [0, 1] rfl
  have hDc := hD.sub (ws' := [(h2, .inr (12, YF)), (ya, .inl (cB, 100000, .inl fya))]) [0, 1] (by decide) rfl
  have hFc := va_free (wc := [(h2, .inr (12, YF)), (ya, .inl (cB, 100000, .inl fya))]) hD hS hA [0, 1] rfl
  refine va_calli (va_runV (C := R_Mod) (As := [.int (xs ((0 + 1) : Int32).toNatClampNeg)]) (rest := [.int (sp_at (xs ((0 + 1) : Int32).toNatClampNeg) 0 (fxa (xs ((0 + 1) : Int32).toNatClampNeg).toNatClampNeg &&& 255))]) ⟨hx, hb, hml, hown, hT⟩ (c_Mod_output l dC dI cI cB cJ cZ H.size h2 YF ya 100000 fya (xs ((0 + 1) : Int32).toNatClampNeg) 0 nYF gYF_113 gYF_112 (by decide)) ⟨callB_of 1 hT (gw_in w_13_116) rfl rfl rfl (hT _ w_1_15) (hT _ w_13_113) (by decide +kernel) ⟨Nat.le_of_ble_eq_true rfl, Nat.le_of_ble_eq_true rfl⟩, hT _ w_13_114, hT _ w_13_115⟩ ⟨PC.blind, va_recv hK hPc (ci := 12) (q0 := 0) rfl rfl, PC.at _ hPc hDc hK hN⟩ rfl rfl hl.1 rfl (lv_room (Nat.le_of_ble_eq_true rfl)) d_law_695 ⟨show _ ≤ 600000 by omega, show _ ≤ 7302250 by omega⟩) hS (fun q _ h => hFc q h) hFc (fun r2 u t H1 locs ht hvm hw hB hz1 hk1 hS => ?_)
  have hw : (sp_at (xs ((0 + 1) : Int32).toNatClampNeg) 0 (fya (xs ((0 + 1) : Int32).toNatClampNeg).toNatClampNeg &&& 255)) = r2 := Eq.symm hw
  subst hw
  obtain ⟨hP, hD⟩ := va_join (wr := []) (w1 := []) hP hD [0, 1] [] rfl rfl (by decide) (by decide) hk1 hFc nilP nilD
  generalize H1 = H at hP hS ⊢
  have hP : va_P (dC, dI) CL [] H := hP
  have hD : va_D A [] := hD
  refine lv_icmp_eq (tgt := 703) hx hb d_law_698 (by decide) (fun c1 => ?_) (fun c1 => absurd (at0 _ _ _) c1)
  exact lb_done C0 hA2 hbA hS hl
end
