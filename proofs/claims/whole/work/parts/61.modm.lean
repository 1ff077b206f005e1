theorem fr_Mod_58 : F_Mod 58 = (R_Mod, "newCount", "I", false) := rfl
theorem w_12_207 : (Jvm.Cond.methodLink "StripedVaultModel" (688 : Nat) ({ cls := "StripedVaultModel", name := "takeText", desc := "(II)V" } : Jvm.MethodName)) ∈ TG := tw_12 207 (by decide +kernel) (by decide +kernel)
theorem w_12_209 : (Jvm.Cond.instanceMethod ({ cls := "StripedVaultModel", name := "takeText", desc := "(II)V" } : Jvm.MethodName)) ∈ TG := tw_12 209 (by decide +kernel) (by decide +kernel)
theorem w_12_210 : (Jvm.Cond.code ({ cls := "StripedVaultModel", name := "takeText", desc := "(II)V" } : Jvm.MethodName) prog_14_method_87_code (5 : Nat) (Option.none : Option Jvm.ClassFile.FieldType)) ∈ TG := tw_12 210 (by decide +kernel) (by decide +kernel)
theorem w_8_234 : (Jvm.Cond.fieldLink "StripedVaultModel" (683 : Nat) "StripedVaultModel" "newCount" "I") ∈ TG := tw_8 234 (by decide +kernel) (by decide +kernel)
theorem ws_206 : Cond.selects R_Mod y_Mod_takeText y_Mod_takeText ∈ TG := tw_s 206 (by decide +kernel) (by decide +kernel)
theorem d_Mod_readBools_181 : decode b_Mod_readBools 181 = .ok (.aload_n 0, 1) := by decide +kernel
theorem d_Mod_readBools_182 : decode b_Mod_readBools 182 = .ok (.dup, 1) := by decide +kernel
theorem d_Mod_readBools_183 : decode b_Mod_readBools 183 = .ok (.getfield 553, 3) := by decide +kernel
theorem d_Mod_readBools_186 : decode b_Mod_readBools 186 = .ok (.iload_n 2, 1) := by decide +kernel
theorem d_Mod_readBools_187 : decode b_Mod_readBools 187 = .ok (.bipush 7, 2) := by decide +kernel
theorem d_Mod_readBools_189 : decode b_Mod_readBools 189 = .ok (.iadd, 1) := by decide +kernel
theorem d_Mod_readBools_190 : decode b_Mod_readBools 190 = .ok (.bipush 8, 2) := by decide +kernel
theorem d_Mod_readBools_192 : decode b_Mod_readBools 192 = .ok (.idiv, 1) := by decide +kernel
theorem d_Mod_readBools_193 : decode b_Mod_readBools 193 = .ok (.iadd, 1) := by decide +kernel
theorem d_Mod_readBools_194 : decode b_Mod_readBools 194 = .ok (.putfield 553, 3) := by decide +kernel
theorem d_Mod_readBools_197 : decode b_Mod_readBools 197 = .ok (.return_, 1) := by decide +kernel
theorem d_Mod_readBools_175 : decode b_Mod_readBools 175 = .ok (.iinc 3 1, 3) := by decide +kernel
theorem d_Mod_readBools_178 : decode b_Mod_readBools 178 = .ok (.goto (-75), 3) := by decide +kernel
theorem d_Mod_readBools_103 : decode b_Mod_readBools 103 = .ok (.iload_n 3, 1) := by decide +kernel
theorem d_Mod_readBools_104 : decode b_Mod_readBools 104 = .ok (.iload_n 2, 1) := by decide +kernel
theorem d_Mod_readBools_105 : decode b_Mod_readBools 105 = .ok (.bipush 7, 2) := by decide +kernel
theorem d_Mod_readBools_107 : decode b_Mod_readBools 107 = .ok (.iadd, 1) := by decide +kernel
theorem d_Mod_readBools_108 : decode b_Mod_readBools 108 = .ok (.bipush 8, 2) := by decide +kernel
theorem d_Mod_readBools_110 : decode b_Mod_readBools 110 = .ok (.idiv, 1) := by decide +kernel
theorem d_Mod_readBools_111 : decode b_Mod_readBools 111 = .ok (.bipush 8, 2) := by decide +kernel
theorem d_Mod_readBools_113 : decode b_Mod_readBools 113 = .ok (.imul, 1) := by decide +kernel
theorem d_Mod_readBools_114 : decode b_Mod_readBools 114 = .ok (.if_icmp .ge 67, 3) := by decide +kernel
theorem d_Mod_readBools_117 : decode b_Mod_readBools 117 = .ok (.aload_n 0, 1) := by decide +kernel
theorem d_Mod_readBools_118 : decode b_Mod_readBools 118 = .ok (.getfield 550, 3) := by decide +kernel
theorem d_Mod_readBools_121 : decode b_Mod_readBools 121 = .ok (.ifCond .ne 60, 3) := by decide +kernel
theorem d_Mod_readBools_124 : decode b_Mod_readBools 124 = .ok (.aload_n 0, 1) := by decide +kernel
theorem d_Mod_readBools_125 : decode b_Mod_readBools 125 = .ok (.getfield 133, 3) := by decide +kernel
theorem d_Mod_readBools_128 : decode b_Mod_readBools 128 = .ok (.aload_n 0, 1) := by decide +kernel
theorem d_Mod_readBools_129 : decode b_Mod_readBools 129 = .ok (.getfield 553, 3) := by decide +kernel
theorem d_Mod_readBools_132 : decode b_Mod_readBools 132 = .ok (.iload_n 3, 1) := by decide +kernel
theorem d_Mod_readBools_133 : decode b_Mod_readBools 133 = .ok (.bipush 8, 2) := by decide +kernel
theorem d_Mod_readBools_135 : decode b_Mod_readBools 135 = .ok (.idiv, 1) := by decide +kernel
theorem d_Mod_readBools_136 : decode b_Mod_readBools 136 = .ok (.iadd, 1) := by decide +kernel
theorem d_Mod_readBools_137 : decode b_Mod_readBools 137 = .ok (.iaload, 1) := by decide +kernel
theorem d_Mod_readBools_138 : decode b_Mod_readBools 138 = .ok (.iload_n 3, 1) := by decide +kernel
theorem d_Mod_readBools_139 : decode b_Mod_readBools 139 = .ok (.bipush 8, 2) := by decide +kernel
theorem d_Mod_readBools_141 : decode b_Mod_readBools 141 = .ok (.irem, 1) := by decide +kernel
theorem d_Mod_readBools_142 : decode b_Mod_readBools 142 = .ok (.ishr, 1) := by decide +kernel
theorem d_Mod_readBools_143 : decode b_Mod_readBools 143 = .ok (.iconst 1, 1) := by decide +kernel
theorem d_Mod_readBools_144 : decode b_Mod_readBools 144 = .ok (.iand, 1) := by decide +kernel
theorem d_Mod_readBools_145 : decode b_Mod_readBools 145 = .ok (.istore 4, 2) := by decide +kernel
theorem d_Mod_readBools_147 : decode b_Mod_readBools 147 = .ok (.iload_n 3, 1) := by decide +kernel
theorem d_Mod_readBools_148 : decode b_Mod_readBools 148 = .ok (.iload_n 2, 1) := by decide +kernel
theorem d_Mod_readBools_149 : decode b_Mod_readBools 149 = .ok (.if_icmp .ge 15, 3) := by decide +kernel
theorem d_Mod_readBools_164 : decode b_Mod_readBools 164 = .ok (.iload 4, 2) := by decide +kernel
theorem d_Mod_readBools_166 : decode b_Mod_readBools 166 = .ok (.iconst 1, 1) := by decide +kernel
theorem d_Mod_readBools_167 : decode b_Mod_readBools 167 = .ok (.if_icmp .ne 8, 3) := by decide +kernel
theorem d_Mod_readBools_170 : decode b_Mod_readBools 170 = .ok (.aload_n 0, 1) := by decide +kernel
theorem d_Mod_readBools_171 : decode b_Mod_readBools 171 = .ok (.iconst 5, 1) := by decide +kernel
theorem d_Mod_readBools_172 : decode b_Mod_readBools 172 = .ok (.putfield 550, 3) := by decide +kernel
theorem d_Mod_readBools_152 : decode b_Mod_readBools 152 = .ok (.aload_n 0, 1) := by decide +kernel
theorem d_Mod_readBools_153 : decode b_Mod_readBools 153 = .ok (.getfield 103, 3) := by decide +kernel
theorem d_Mod_readBools_156 : decode b_Mod_readBools 156 = .ok (.iload_n 3, 1) := by decide +kernel
theorem d_Mod_readBools_157 : decode b_Mod_readBools 157 = .ok (.iload 4, 2) := by decide +kernel
theorem d_Mod_readBools_159 : decode b_Mod_readBools 159 = .ok (.i2l, 1) := by decide +kernel
theorem d_Mod_readBools_160 : decode b_Mod_readBools 160 = .ok (.lastore, 1) := by decide +kernel
theorem d_Mod_readBools_161 : decode b_Mod_readBools 161 = .ok (.goto 14, 3) := by decide +kernel
theorem d_Mod_readBools_101 : decode b_Mod_readBools 101 = .ok (.iconst 0, 1) := by decide +kernel
theorem d_Mod_readBools_102 : decode b_Mod_readBools 102 = .ok (.istore_n 3, 1) := by decide +kernel
theorem d_Mod_readBools_45 : decode b_Mod_readBools 45 = .ok (.iload_n 3, 1) := by decide +kernel
theorem d_Mod_readBools_46 : decode b_Mod_readBools 46 = .ok (.iload_n 2, 1) := by decide +kernel
theorem d_Mod_readBools_47 : decode b_Mod_readBools 47 = .ok (.if_icmp .ge 29, 3) := by decide +kernel
theorem d_Mod_readBools_76 : decode b_Mod_readBools 76 = .ok (.return_, 1) := by decide +kernel
theorem d_Mod_readBools_50 : decode b_Mod_readBools 50 = .ok (.aload_n 0, 1) := by decide +kernel
theorem d_Mod_readBools_51 : decode b_Mod_readBools 51 = .ok (.getfield 550, 3) := by decide +kernel
theorem d_Mod_readBools_54 : decode b_Mod_readBools 54 = .ok (.ifCond .ne 22, 3) := by decide +kernel
theorem d_Mod_readBools_57 : decode b_Mod_readBools 57 = .ok (.aload_n 0, 1) := by decide +kernel
theorem d_Mod_readBools_58 : decode b_Mod_readBools 58 = .ok (.getfield 103, 3) := by decide +kernel
theorem d_Mod_readBools_61 : decode b_Mod_readBools 61 = .ok (.iload_n 3, 1) := by decide +kernel
theorem d_Mod_readBools_62 : decode b_Mod_readBools 62 = .ok (.aload_n 0, 1) := by decide +kernel
theorem d_Mod_readBools_63 : decode b_Mod_readBools 63 = .ok (.getfield 142, 3) := by decide +kernel
theorem d_Mod_readBools_66 : decode b_Mod_readBools 66 = .ok (.iload_n 3, 1) := by decide +kernel
theorem d_Mod_readBools_67 : decode b_Mod_readBools 67 = .ok (.iaload, 1) := by decide +kernel
theorem d_Mod_readBools_68 : decode b_Mod_readBools 68 = .ok (.i2l, 1) := by decide +kernel
theorem d_Mod_readBools_69 : decode b_Mod_readBools 69 = .ok (.lastore, 1) := by decide +kernel
theorem d_Mod_readBools_70 : decode b_Mod_readBools 70 = .ok (.iinc 3 1, 3) := by decide +kernel
theorem d_Mod_readBools_73 : decode b_Mod_readBools 73 = .ok (.goto (-28), 3) := by decide +kernel
theorem d_Mod_readBools_43 : decode b_Mod_readBools 43 = .ok (.iconst 0, 1) := by decide +kernel
theorem d_Mod_readBools_44 : decode b_Mod_readBools 44 = .ok (.istore_n 3, 1) := by decide +kernel
theorem d_Mod_readBools_0 : decode b_Mod_readBools 0 = .ok (.iload_n 1, 1) := by decide +kernel
theorem d_Mod_readBools_1 : decode b_Mod_readBools 1 = .ok (.iconst 1, 1) := by decide +kernel
theorem d_Mod_readBools_2 : decode b_Mod_readBools 2 = .ok (.if_icmp .ne 75, 3) := by decide +kernel
theorem d_Mod_readBools_77 : decode b_Mod_readBools 77 = .ok (.aload_n 0, 1) := by decide +kernel
theorem d_Mod_readBools_78 : decode b_Mod_readBools 78 = .ok (.getfield 608, 3) := by decide +kernel
theorem d_Mod_readBools_81 : decode b_Mod_readBools 81 = .ok (.aload_n 0, 1) := by decide +kernel
theorem d_Mod_readBools_82 : decode b_Mod_readBools 82 = .ok (.getfield 553, 3) := by decide +kernel
theorem d_Mod_readBools_85 : decode b_Mod_readBools 85 = .ok (.isub, 1) := by decide +kernel
theorem d_Mod_readBools_86 : decode b_Mod_readBools 86 = .ok (.iload_n 2, 1) := by decide +kernel
theorem d_Mod_readBools_87 : decode b_Mod_readBools 87 = .ok (.bipush 7, 2) := by decide +kernel
theorem d_Mod_readBools_89 : decode b_Mod_readBools 89 = .ok (.iadd, 1) := by decide +kernel
theorem d_Mod_readBools_90 : decode b_Mod_readBools 90 = .ok (.bipush 8, 2) := by decide +kernel
theorem d_Mod_readBools_92 : decode b_Mod_readBools 92 = .ok (.idiv, 1) := by decide +kernel
theorem d_Mod_readBools_93 : decode b_Mod_readBools 93 = .ok (.if_icmp .ge 8, 3) := by decide +kernel
theorem d_Mod_readBools_96 : decode b_Mod_readBools 96 = .ok (.aload_n 0, 1) := by decide +kernel
theorem d_Mod_readBools_97 : decode b_Mod_readBools 97 = .ok (.iconst 1, 1) := by decide +kernel
theorem d_Mod_readBools_98 : decode b_Mod_readBools 98 = .ok (.putfield 550, 3) := by decide +kernel
theorem d_Mod_readBools_5 : decode b_Mod_readBools 5 = .ok (.aload_n 0, 1) := by decide +kernel
theorem d_Mod_readBools_6 : decode b_Mod_readBools 6 = .ok (.aload_n 0, 1) := by decide +kernel
theorem d_Mod_readBools_7 : decode b_Mod_readBools 7 = .ok (.getfield 142, 3) := by decide +kernel
theorem d_Mod_readBools_10 : decode b_Mod_readBools 10 = .ok (.iload_n 2, 1) := by decide +kernel
theorem d_Mod_readBools_11 : decode b_Mod_readBools 11 = .ok (.iconst 1, 1) := by decide +kernel
theorem d_Mod_readBools_12 : decode b_Mod_readBools 12 = .ok (.aload_n 0, 1) := by decide +kernel
theorem d_Mod_readBools_13 : decode b_Mod_readBools 13 = .ok (.getfield 608, 3) := by decide +kernel
theorem d_Mod_readBools_16 : decode b_Mod_readBools 16 = .ok (.invokevirtual 704, 3) := by decide +kernel
theorem d_Mod_readBools_19 : decode b_Mod_readBools 19 = .ok (.aload_n 0, 1) := by decide +kernel
theorem d_Mod_readBools_20 : decode b_Mod_readBools 20 = .ok (.getfield 550, 3) := by decide +kernel
theorem d_Mod_readBools_23 : decode b_Mod_readBools 23 = .ok (.ifCond .ne 20, 3) := by decide +kernel
theorem d_Mod_readBools_26 : decode b_Mod_readBools 26 = .ok (.aload_n 0, 1) := by decide +kernel
theorem d_Mod_readBools_27 : decode b_Mod_readBools 27 = .ok (.getfield 553, 3) := by decide +kernel
theorem d_Mod_readBools_30 : decode b_Mod_readBools 30 = .ok (.aload_n 0, 1) := by decide +kernel
theorem d_Mod_readBools_31 : decode b_Mod_readBools 31 = .ok (.getfield 608, 3) := by decide +kernel
theorem d_Mod_readBools_34 : decode b_Mod_readBools 34 = .ok (.if_icmp .ge 9, 3) := by decide +kernel
theorem d_Mod_readBools_37 : decode b_Mod_readBools 37 = .ok (.aload_n 0, 1) := by decide +kernel
theorem d_Mod_readBools_38 : decode b_Mod_readBools 38 = .ok (.bipush 6, 2) := by decide +kernel
theorem d_Mod_readBools_40 : decode b_Mod_readBools 40 = .ok (.putfield 550, 3) := by decide +kernel
theorem d_Mod_takeText_110 : decode b_Mod_takeText 110 = .ok (.iload 4, 2) := by decide +kernel
theorem d_Mod_takeText_112 : decode b_Mod_takeText 112 = .ok (.iload_n 1, 1) := by decide +kernel
theorem d_Mod_takeText_113 : decode b_Mod_takeText 113 = .ok (.if_icmp .ge 32, 3) := by decide +kernel
theorem d_Mod_takeText_145 : decode b_Mod_takeText 145 = .ok (.aload_n 0, 1) := by decide +kernel
theorem d_Mod_takeText_146 : decode b_Mod_takeText 146 = .ok (.dup, 1) := by decide +kernel
theorem d_Mod_takeText_147 : decode b_Mod_takeText 147 = .ok (.getfield 553, 3) := by decide +kernel
theorem d_Mod_takeText_150 : decode b_Mod_takeText 150 = .ok (.iload_n 1, 1) := by decide +kernel
theorem d_Mod_takeText_151 : decode b_Mod_takeText 151 = .ok (.iadd, 1) := by decide +kernel
theorem d_Mod_takeText_152 : decode b_Mod_takeText 152 = .ok (.putfield 553, 3) := by decide +kernel
theorem d_Mod_takeText_155 : decode b_Mod_takeText 155 = .ok (.aload_n 0, 1) := by decide +kernel
theorem d_Mod_takeText_156 : decode b_Mod_takeText 156 = .ok (.dup, 1) := by decide +kernel
theorem d_Mod_takeText_157 : decode b_Mod_takeText 157 = .ok (.getfield 683, 3) := by decide +kernel
theorem d_Mod_takeText_160 : decode b_Mod_takeText 160 = .ok (.iconst 1, 1) := by decide +kernel
theorem d_Mod_takeText_161 : decode b_Mod_takeText 161 = .ok (.iadd, 1) := by decide +kernel
theorem d_Mod_takeText_162 : decode b_Mod_takeText 162 = .ok (.putfield 683, 3) := by decide +kernel
theorem d_Mod_takeText_165 : decode b_Mod_takeText 165 = .ok (.aload_n 0, 1) := by decide +kernel
theorem d_Mod_takeText_166 : decode b_Mod_takeText 166 = .ok (.getfield 112, 3) := by decide +kernel
theorem d_Mod_takeText_169 : decode b_Mod_takeText 169 = .ok (.aload_n 0, 1) := by decide +kernel
theorem d_Mod_takeText_170 : decode b_Mod_takeText 170 = .ok (.getfield 683, 3) := by decide +kernel
theorem d_Mod_takeText_173 : decode b_Mod_takeText 173 = .ok (.iload_n 3, 1) := by decide +kernel
theorem d_Mod_takeText_174 : decode b_Mod_takeText 174 = .ok (.iload_n 2, 1) := by decide +kernel
theorem d_Mod_takeText_175 : decode b_Mod_takeText 175 = .ok (.iadd, 1) := by decide +kernel
theorem d_Mod_takeText_176 : decode b_Mod_takeText 176 = .ok (.iload_n 1, 1) := by decide +kernel
theorem d_Mod_takeText_177 : decode b_Mod_takeText 177 = .ok (.iadd, 1) := by decide +kernel
theorem d_Mod_takeText_178 : decode b_Mod_takeText 178 = .ok (.iastore, 1) := by decide +kernel
theorem d_Mod_takeText_179 : decode b_Mod_takeText 179 = .ok (.return_, 1) := by decide +kernel
theorem d_Mod_takeText_116 : decode b_Mod_takeText 116 = .ok (.aload_n 0, 1) := by decide +kernel
theorem d_Mod_takeText_117 : decode b_Mod_takeText 117 = .ok (.getfield 121, 3) := by decide +kernel
theorem d_Mod_takeText_120 : decode b_Mod_takeText 120 = .ok (.iload_n 3, 1) := by decide +kernel
theorem d_Mod_takeText_121 : decode b_Mod_takeText 121 = .ok (.iload_n 2, 1) := by decide +kernel
theorem d_Mod_takeText_122 : decode b_Mod_takeText 122 = .ok (.iadd, 1) := by decide +kernel
theorem d_Mod_takeText_123 : decode b_Mod_takeText 123 = .ok (.iload 4, 2) := by decide +kernel
theorem d_Mod_takeText_125 : decode b_Mod_takeText 125 = .ok (.iadd, 1) := by decide +kernel
theorem d_Mod_takeText_126 : decode b_Mod_takeText 126 = .ok (.aload_n 0, 1) := by decide +kernel
theorem d_Mod_takeText_127 : decode b_Mod_takeText 127 = .ok (.getfield 133, 3) := by decide +kernel
theorem d_Mod_takeText_130 : decode b_Mod_takeText 130 = .ok (.aload_n 0, 1) := by decide +kernel
theorem d_Mod_takeText_131 : decode b_Mod_takeText 131 = .ok (.getfield 553, 3) := by decide +kernel
theorem d_Mod_takeText_134 : decode b_Mod_takeText 134 = .ok (.iload 4, 2) := by decide +kernel
theorem d_Mod_takeText_136 : decode b_Mod_takeText 136 = .ok (.iadd, 1) := by decide +kernel
theorem d_Mod_takeText_137 : decode b_Mod_takeText 137 = .ok (.iaload, 1) := by decide +kernel
theorem d_Mod_takeText_138 : decode b_Mod_takeText 138 = .ok (.iastore, 1) := by decide +kernel
theorem d_Mod_takeText_139 : decode b_Mod_takeText 139 = .ok (.iinc 4 1, 3) := by decide +kernel
theorem d_Mod_takeText_142 : decode b_Mod_takeText 142 = .ok (.goto (-32), 3) := by decide +kernel
theorem d_Mod_takeText_67 : decode b_Mod_takeText 67 = .ok (.iload 4, 2) := by decide +kernel
theorem d_Mod_takeText_69 : decode b_Mod_takeText 69 = .ok (.iload_n 2, 1) := by decide +kernel
theorem d_Mod_takeText_70 : decode b_Mod_takeText 70 = .ok (.if_icmp .ge 37, 3) := by decide +kernel
theorem d_Mod_takeText_107 : decode b_Mod_takeText 107 = .ok (.iconst 0, 1) := by decide +kernel
theorem d_Mod_takeText_108 : decode b_Mod_takeText 108 = .ok (.istore 4, 2) := by decide +kernel
theorem d_Mod_takeText_73 : decode b_Mod_takeText 73 = .ok (.aload_n 0, 1) := by decide +kernel
theorem d_Mod_takeText_74 : decode b_Mod_takeText 74 = .ok (.getfield 121, 3) := by decide +kernel
theorem d_Mod_takeText_77 : decode b_Mod_takeText 77 = .ok (.iload_n 3, 1) := by decide +kernel
theorem d_Mod_takeText_78 : decode b_Mod_takeText 78 = .ok (.iload 4, 2) := by decide +kernel
theorem d_Mod_takeText_80 : decode b_Mod_takeText 80 = .ok (.iadd, 1) := by decide +kernel
theorem d_Mod_takeText_81 : decode b_Mod_takeText 81 = .ok (.aload_n 0, 1) := by decide +kernel
theorem d_Mod_takeText_82 : decode b_Mod_takeText 82 = .ok (.getfield 121, 3) := by decide +kernel
theorem d_Mod_takeText_85 : decode b_Mod_takeText 85 = .ok (.aload_n 0, 1) := by decide +kernel
theorem d_Mod_takeText_86 : decode b_Mod_takeText 86 = .ok (.getfield 112, 3) := by decide +kernel
theorem d_Mod_takeText_89 : decode b_Mod_takeText 89 = .ok (.aload_n 0, 1) := by decide +kernel
theorem d_Mod_takeText_90 : decode b_Mod_takeText 90 = .ok (.getfield 683, 3) := by decide +kernel
theorem d_Mod_takeText_93 : decode b_Mod_takeText 93 = .ok (.iconst 1, 1) := by decide +kernel
theorem d_Mod_takeText_94 : decode b_Mod_takeText 94 = .ok (.isub, 1) := by decide +kernel
theorem d_Mod_takeText_95 : decode b_Mod_takeText 95 = .ok (.iaload, 1) := by decide +kernel
theorem d_Mod_takeText_96 : decode b_Mod_takeText 96 = .ok (.iload 4, 2) := by decide +kernel
theorem d_Mod_takeText_98 : decode b_Mod_takeText 98 = .ok (.iadd, 1) := by decide +kernel
theorem d_Mod_takeText_99 : decode b_Mod_takeText 99 = .ok (.iaload, 1) := by decide +kernel
theorem d_Mod_takeText_100 : decode b_Mod_takeText 100 = .ok (.iastore, 1) := by decide +kernel
theorem d_Mod_takeText_101 : decode b_Mod_takeText 101 = .ok (.iinc 4 1, 3) := by decide +kernel
theorem d_Mod_takeText_104 : decode b_Mod_takeText 104 = .ok (.goto (-37), 3) := by decide +kernel
theorem d_Mod_takeText_46 : decode b_Mod_takeText 46 = .ok (.aload_n 0, 1) := by decide +kernel
theorem d_Mod_takeText_47 : decode b_Mod_takeText 47 = .ok (.getfield 550, 3) := by decide +kernel
theorem d_Mod_takeText_50 : decode b_Mod_takeText 50 = .ok (.ifCond .eq 4, 3) := by decide +kernel
theorem d_Mod_takeText_54 : decode b_Mod_takeText 54 = .ok (.aload_n 0, 1) := by decide +kernel
theorem d_Mod_takeText_55 : decode b_Mod_takeText 55 = .ok (.getfield 112, 3) := by decide +kernel
theorem d_Mod_takeText_58 : decode b_Mod_takeText 58 = .ok (.aload_n 0, 1) := by decide +kernel
theorem d_Mod_takeText_59 : decode b_Mod_takeText 59 = .ok (.getfield 683, 3) := by decide +kernel
theorem d_Mod_takeText_62 : decode b_Mod_takeText 62 = .ok (.iaload, 1) := by decide +kernel
theorem d_Mod_takeText_63 : decode b_Mod_takeText 63 = .ok (.istore_n 3, 1) := by decide +kernel
theorem d_Mod_takeText_64 : decode b_Mod_takeText 64 = .ok (.iconst 0, 1) := by decide +kernel
theorem d_Mod_takeText_65 : decode b_Mod_takeText 65 = .ok (.istore 4, 2) := by decide +kernel
theorem d_Mod_takeText_53 : decode b_Mod_takeText 53 = .ok (.return_, 1) := by decide +kernel
theorem d_Mod_takeText_0 : decode b_Mod_takeText 0 = .ok (.aload_n 0, 1) := by decide +kernel
theorem d_Mod_takeText_1 : decode b_Mod_takeText 1 = .ok (.getfield 608, 3) := by decide +kernel
theorem d_Mod_takeText_4 : decode b_Mod_takeText 4 = .ok (.aload_n 0, 1) := by decide +kernel
theorem d_Mod_takeText_5 : decode b_Mod_takeText 5 = .ok (.getfield 553, 3) := by decide +kernel
theorem d_Mod_takeText_8 : decode b_Mod_takeText 8 = .ok (.isub, 1) := by decide +kernel
theorem d_Mod_takeText_9 : decode b_Mod_takeText 9 = .ok (.iload_n 1, 1) := by decide +kernel
theorem d_Mod_takeText_10 : decode b_Mod_takeText 10 = .ok (.if_icmp .ge 11, 3) := by decide +kernel
theorem d_Mod_takeText_21 : decode b_Mod_takeText 21 = .ok (.aload_n 0, 1) := by decide +kernel
theorem d_Mod_takeText_22 : decode b_Mod_takeText 22 = .ok (.getfield 112, 3) := by decide +kernel
theorem d_Mod_takeText_25 : decode b_Mod_takeText 25 = .ok (.aload_n 0, 1) := by decide +kernel
theorem d_Mod_takeText_26 : decode b_Mod_takeText 26 = .ok (.getfield 683, 3) := by decide +kernel
theorem d_Mod_takeText_29 : decode b_Mod_takeText 29 = .ok (.iaload, 1) := by decide +kernel
theorem d_Mod_takeText_30 : decode b_Mod_takeText 30 = .ok (.iload_n 2, 1) := by decide +kernel
theorem d_Mod_takeText_31 : decode b_Mod_takeText 31 = .ok (.iadd, 1) := by decide +kernel
theorem d_Mod_takeText_32 : decode b_Mod_takeText 32 = .ok (.iload_n 1, 1) := by decide +kernel
theorem d_Mod_takeText_33 : decode b_Mod_takeText 33 = .ok (.iadd, 1) := by decide +kernel
theorem d_Mod_takeText_34 : decode b_Mod_takeText 34 = .ok (.sipush 20000, 3) := by decide +kernel
theorem d_Mod_takeText_37 : decode b_Mod_takeText 37 = .ok (.if_icmp .le 9, 3) := by decide +kernel
theorem d_Mod_takeText_40 : decode b_Mod_takeText 40 = .ok (.aload_n 0, 1) := by decide +kernel
theorem d_Mod_takeText_41 : decode b_Mod_takeText 41 = .ok (.bipush 7, 2) := by decide +kernel
theorem d_Mod_takeText_43 : decode b_Mod_takeText 43 = .ok (.putfield 550, 3) := by decide +kernel
theorem d_Mod_takeText_13 : decode b_Mod_takeText 13 = .ok (.aload_n 0, 1) := by decide +kernel
theorem d_Mod_takeText_14 : decode b_Mod_takeText 14 = .ok (.iconst 1, 1) := by decide +kernel
theorem d_Mod_takeText_15 : decode b_Mod_takeText 15 = .ok (.putfield 550, 3) := by decide +kernel
theorem d_Mod_takeText_18 : decode b_Mod_takeText 18 = .ok (.goto 28, 3) := by decide +kernel
theorem d_Mod_readPlain_64 : decode b_Mod_readPlain 64 = .ok (.iinc 2 1, 3) := by decide +kernel
theorem d_Mod_readPlain_67 : decode b_Mod_readPlain 67 = .ok (.goto (-65), 3) := by decide +kernel
theorem d_Mod_readPlain_50 : decode b_Mod_readPlain 50 = .ok (.aload_n 0, 1) := by decide +kernel
theorem d_Mod_readPlain_51 : decode b_Mod_readPlain 51 = .ok (.getfield 550, 3) := by decide +kernel
theorem d_Mod_readPlain_54 : decode b_Mod_readPlain 54 = .ok (.ifCond .ne 10, 3) := by decide +kernel
theorem d_Mod_readPlain_57 : decode b_Mod_readPlain 57 = .ok (.aload_n 0, 1) := by decide +kernel
theorem d_Mod_readPlain_58 : decode b_Mod_readPlain 58 = .ok (.lload_n 3, 1) := by decide +kernel
theorem d_Mod_readPlain_59 : decode b_Mod_readPlain 59 = .ok (.l2i, 1) := by decide +kernel
theorem d_Mod_readPlain_60 : decode b_Mod_readPlain 60 = .ok (.iconst 0, 1) := by decide +kernel
theorem d_Mod_readPlain_61 : decode b_Mod_readPlain 61 = .ok (.invokevirtual 688, 3) := by decide +kernel
theorem d_Mod_readPlain_44 : decode b_Mod_readPlain 44 = .ok (.aload_n 0, 1) := by decide +kernel
theorem d_Mod_readPlain_45 : decode b_Mod_readPlain 45 = .ok (.bipush 7, 2) := by decide +kernel
theorem d_Mod_readPlain_47 : decode b_Mod_readPlain 47 = .ok (.putfield 550, 3) := by decide +kernel
theorem d_Mod_readPlain_2 : decode b_Mod_readPlain 2 = .ok (.iload_n 2, 1) := by decide +kernel
theorem d_Mod_readPlain_3 : decode b_Mod_readPlain 3 = .ok (.iload_n 1, 1) := by decide +kernel
theorem d_Mod_readPlain_4 : decode b_Mod_readPlain 4 = .ok (.if_icmp .ge 66, 3) := by decide +kernel
theorem d_Mod_readPlain_70 : decode b_Mod_readPlain 70 = .ok (.return_, 1) := by decide +kernel
theorem d_Mod_readPlain_7 : decode b_Mod_readPlain 7 = .ok (.aload_n 0, 1) := by decide +kernel
theorem d_Mod_readPlain_8 : decode b_Mod_readPlain 8 = .ok (.getfield 550, 3) := by decide +kernel
theorem d_Mod_readPlain_11 : decode b_Mod_readPlain 11 = .ok (.ifCond .ne 59, 3) := by decide +kernel
theorem d_Mod_readPlain_14 : decode b_Mod_readPlain 14 = .ok (.aload_n 0, 1) := by decide +kernel
theorem d_Mod_readPlain_15 : decode b_Mod_readPlain 15 = .ok (.aload_n 0, 1) := by decide +kernel
theorem d_Mod_readPlain_16 : decode b_Mod_readPlain 16 = .ok (.getfield 608, 3) := by decide +kernel
theorem d_Mod_readPlain_19 : decode b_Mod_readPlain 19 = .ok (.invokevirtual 571, 3) := by decide +kernel
theorem d_Mod_readPlain_22 : decode b_Mod_readPlain 22 = .ok (.lstore_n 3, 1) := by decide +kernel
theorem d_Mod_readPlain_23 : decode b_Mod_readPlain 23 = .ok (.aload_n 0, 1) := by decide +kernel
theorem d_Mod_readPlain_24 : decode b_Mod_readPlain 24 = .ok (.getfield 550, 3) := by decide +kernel
theorem d_Mod_readPlain_27 : decode b_Mod_readPlain 27 = .ok (.ifCond .ne 23, 3) := by decide +kernel
theorem d_Mod_readPlain_30 : decode b_Mod_readPlain 30 = .ok (.lload_n 3, 1) := by decide +kernel
theorem d_Mod_readPlain_31 : decode b_Mod_readPlain 31 = .ok (.lconst 0, 1) := by decide +kernel
theorem d_Mod_readPlain_32 : decode b_Mod_readPlain 32 = .ok (.lcmp, 1) := by decide +kernel
theorem d_Mod_readPlain_33 : decode b_Mod_readPlain 33 = .ok (.ifCond .lt 11, 3) := by decide +kernel
theorem d_Mod_readPlain_36 : decode b_Mod_readPlain 36 = .ok (.lload_n 3, 1) := by decide +kernel
theorem d_Mod_readPlain_37 : decode b_Mod_readPlain 37 = .ok (.ldc2_w 686, 3) := by decide +kernel
theorem d_Mod_readPlain_40 : decode b_Mod_readPlain 40 = .ok (.lcmp, 1) := by decide +kernel
theorem d_Mod_readPlain_41 : decode b_Mod_readPlain 41 = .ok (.ifCond .le 9, 3) := by decide +kernel
theorem d_Mod_readPlain_0 : decode b_Mod_readPlain 0 = .ok (.iconst 0, 1) := by decide +kernel
theorem d_Mod_readPlain_1 : decode b_Mod_readPlain 1 = .ok (.istore_n 2, 1) := by decide +kernel
theorem d_Mod_readBlock_305 : decode b_Mod_readBlock 305 = .ok (.aload_n 0, 1) := by decide +kernel
theorem d_Mod_readBlock_306 : decode b_Mod_readBlock 306 = .ok (.dup, 1) := by decide +kernel
theorem d_Mod_readBlock_307 : decode b_Mod_readBlock 307 = .ok (.getfield 553, 3) := by decide +kernel
theorem d_Mod_readBlock_310 : decode b_Mod_readBlock 310 = .ok (.iconst 2, 1) := by decide +kernel
theorem d_Mod_readBlock_311 : decode b_Mod_readBlock 311 = .ok (.iload 8, 2) := by decide +kernel
theorem d_Mod_readBlock_313 : decode b_Mod_readBlock 313 = .ok (.imul, 1) := by decide +kernel
theorem d_Mod_readBlock_314 : decode b_Mod_readBlock 314 = .ok (.iadd, 1) := by decide +kernel
theorem d_Mod_readBlock_315 : decode b_Mod_readBlock 315 = .ok (.putfield 553, 3) := by decide +kernel
theorem d_Mod_readBlock_318 : decode b_Mod_readBlock 318 = .ok (.iinc 7 1, 3) := by decide +kernel
theorem d_Mod_readBlock_321 : decode b_Mod_readBlock 321 = .ok (.goto (-212), 3) := by decide +kernel
theorem d_Mod_readBlock_299 : decode b_Mod_readBlock 299 = .ok (.iinc 9 1, 3) := by decide +kernel
theorem d_Mod_readBlock_302 : decode b_Mod_readBlock 302 = .ok (.goto (-136), 3) := by decide +kernel
theorem d_Mod_readBlock_187 : decode b_Mod_readBlock 187 = .ok (.iload 12, 2) := by decide +kernel
theorem d_Mod_readBlock_189 : decode b_Mod_readBlock 189 = .ok (.iload 8, 2) := by decide +kernel
theorem d_Mod_readBlock_191 : decode b_Mod_readBlock 191 = .ok (.if_icmp .ge 53, 3) := by decide +kernel
theorem d_Mod_readBlock_244 : decode b_Mod_readBlock 244 = .ok (.iload_n 1, 1) := by decide +kernel
theorem d_Mod_readBlock_245 : decode b_Mod_readBlock 245 = .ok (.bipush 16, 2) := by decide +kernel
theorem d_Mod_readBlock_247 : decode b_Mod_readBlock 247 = .ok (.iload 7, 2) := by decide +kernel
theorem d_Mod_readBlock_249 : decode b_Mod_readBlock 249 = .ok (.imul, 1) := by decide +kernel
theorem d_Mod_readBlock_250 : decode b_Mod_readBlock 250 = .ok (.iadd, 1) := by decide +kernel
theorem d_Mod_readBlock_251 : decode b_Mod_readBlock 251 = .ok (.iload 9, 2) := by decide +kernel
theorem d_Mod_readBlock_253 : decode b_Mod_readBlock 253 = .ok (.iadd, 1) := by decide +kernel
theorem d_Mod_readBlock_254 : decode b_Mod_readBlock 254 = .ok (.istore 12, 2) := by decide +kernel
theorem d_Mod_readBlock_256 : decode b_Mod_readBlock 256 = .ok (.iload 12, 2) := by decide +kernel
theorem d_Mod_readBlock_258 : decode b_Mod_readBlock 258 = .ok (.iload_n 2, 1) := by decide +kernel
theorem d_Mod_readBlock_259 : decode b_Mod_readBlock 259 = .ok (.if_icmp .ge 28, 3) := by decide +kernel
theorem d_Mod_readBlock_287 : decode b_Mod_readBlock 287 = .ok (.lload 10, 2) := by decide +kernel
theorem d_Mod_readBlock_289 : decode b_Mod_readBlock 289 = .ok (.lconst 0, 1) := by decide +kernel
theorem d_Mod_readBlock_290 : decode b_Mod_readBlock 290 = .ok (.lcmp, 1) := by decide +kernel
theorem d_Mod_readBlock_291 : decode b_Mod_readBlock 291 = .ok (.ifCond .eq 8, 3) := by decide +kernel
theorem d_Mod_readBlock_294 : decode b_Mod_readBlock 294 = .ok (.aload_n 0, 1) := by decide +kernel
theorem d_Mod_readBlock_295 : decode b_Mod_readBlock 295 = .ok (.iconst 5, 1) := by decide +kernel
theorem d_Mod_readBlock_296 : decode b_Mod_readBlock 296 = .ok (.putfield 550, 3) := by decide +kernel
theorem d_Mod_readBlock_262 : decode b_Mod_readBlock 262 = .ok (.aload_n 0, 1) := by decide +kernel
theorem d_Mod_readBlock_263 : decode b_Mod_readBlock 263 = .ok (.getfield 139, 3) := by decide +kernel
theorem d_Mod_readBlock_266 : decode b_Mod_readBlock 266 = .ok (.iload 12, 2) := by decide +kernel
theorem d_Mod_readBlock_268 : decode b_Mod_readBlock 268 = .ok (.iconst 1, 1) := by decide +kernel
theorem d_Mod_readBlock_269 : decode b_Mod_readBlock 269 = .ok (.iadd, 1) := by decide +kernel
theorem d_Mod_readBlock_270 : decode b_Mod_readBlock 270 = .ok (.aload_n 0, 1) := by decide +kernel
theorem d_Mod_readBlock_271 : decode b_Mod_readBlock 271 = .ok (.getfield 139, 3) := by decide +kernel
theorem d_Mod_readBlock_274 : decode b_Mod_readBlock 274 = .ok (.iload 12, 2) := by decide +kernel
theorem d_Mod_readBlock_276 : decode b_Mod_readBlock 276 = .ok (.laload, 1) := by decide +kernel
theorem d_Mod_readBlock_277 : decode b_Mod_readBlock 277 = .ok (.lload 4, 2) := by decide +kernel
theorem d_Mod_readBlock_279 : decode b_Mod_readBlock 279 = .ok (.ladd, 1) := by decide +kernel
theorem d_Mod_readBlock_280 : decode b_Mod_readBlock 280 = .ok (.lload 10, 2) := by decide +kernel
theorem d_Mod_readBlock_282 : decode b_Mod_readBlock 282 = .ok (.ladd, 1) := by decide +kernel
theorem d_Mod_readBlock_283 : decode b_Mod_readBlock 283 = .ok (.lastore, 1) := by decide +kernel
theorem d_Mod_readBlock_284 : decode b_Mod_readBlock 284 = .ok (.goto 15, 3) := by decide +kernel
theorem d_Mod_readBlock_194 : decode b_Mod_readBlock 194 = .ok (.lload 10, 2) := by decide +kernel
theorem d_Mod_readBlock_196 : decode b_Mod_readBlock 196 = .ok (.aload_n 0, 1) := by decide +kernel
theorem d_Mod_readBlock_197 : decode b_Mod_readBlock 197 = .ok (.getfield 133, 3) := by decide +kernel
theorem d_Mod_readBlock_200 : decode b_Mod_readBlock 200 = .ok (.aload_n 0, 1) := by decide +kernel
theorem d_Mod_readBlock_201 : decode b_Mod_readBlock 201 = .ok (.getfield 553, 3) := by decide +kernel
theorem d_Mod_readBlock_204 : decode b_Mod_readBlock 204 = .ok (.iload 8, 2) := by decide +kernel
theorem d_Mod_readBlock_206 : decode b_Mod_readBlock 206 = .ok (.iload 9, 2) := by decide +kernel
theorem d_Mod_readBlock_208 : decode b_Mod_readBlock 208 = .ok (.imul, 1) := by decide +kernel
theorem d_Mod_readBlock_209 : decode b_Mod_readBlock 209 = .ok (.iload 12, 2) := by decide +kernel
theorem d_Mod_readBlock_211 : decode b_Mod_readBlock 211 = .ok (.iadd, 1) := by decide +kernel
theorem d_Mod_readBlock_212 : decode b_Mod_readBlock 212 = .ok (.bipush 8, 2) := by decide +kernel
theorem d_Mod_readBlock_214 : decode b_Mod_readBlock 214 = .ok (.idiv, 1) := by decide +kernel
theorem d_Mod_readBlock_215 : decode b_Mod_readBlock 215 = .ok (.iadd, 1) := by decide +kernel
theorem d_Mod_readBlock_216 : decode b_Mod_readBlock 216 = .ok (.iaload, 1) := by decide +kernel
theorem d_Mod_readBlock_217 : decode b_Mod_readBlock 217 = .ok (.iload 8, 2) := by decide +kernel
theorem d_Mod_readBlock_219 : decode b_Mod_readBlock 219 = .ok (.iload 9, 2) := by decide +kernel
theorem d_Mod_readBlock_221 : decode b_Mod_readBlock 221 = .ok (.imul, 1) := by decide +kernel
theorem d_Mod_readBlock_222 : decode b_Mod_readBlock 222 = .ok (.iload 12, 2) := by decide +kernel
theorem d_Mod_readBlock_224 : decode b_Mod_readBlock 224 = .ok (.iadd, 1) := by decide +kernel
theorem d_Mod_readBlock_225 : decode b_Mod_readBlock 225 = .ok (.bipush 8, 2) := by decide +kernel
theorem d_Mod_readBlock_227 : decode b_Mod_readBlock 227 = .ok (.irem, 1) := by decide +kernel
theorem d_Mod_readBlock_228 : decode b_Mod_readBlock 228 = .ok (.ishr, 1) := by decide +kernel
theorem d_Mod_readBlock_229 : decode b_Mod_readBlock 229 = .ok (.iconst 1, 1) := by decide +kernel
theorem d_Mod_readBlock_230 : decode b_Mod_readBlock 230 = .ok (.iand, 1) := by decide +kernel
theorem d_Mod_readBlock_231 : decode b_Mod_readBlock 231 = .ok (.i2l, 1) := by decide +kernel
theorem d_Mod_readBlock_232 : decode b_Mod_readBlock 232 = .ok (.iload 12, 2) := by decide +kernel
theorem d_Mod_readBlock_234 : decode b_Mod_readBlock 234 = .ok (.lshl, 1) := by decide +kernel
theorem d_Mod_readBlock_235 : decode b_Mod_readBlock 235 = .ok (.lor, 1) := by decide +kernel
theorem d_Mod_readBlock_236 : decode b_Mod_readBlock 236 = .ok (.lstore 10, 2) := by decide +kernel
theorem d_Mod_readBlock_238 : decode b_Mod_readBlock 238 = .ok (.iinc 12 1, 3) := by decide +kernel
theorem d_Mod_readBlock_241 : decode b_Mod_readBlock 241 = .ok (.goto (-54), 3) := by decide +kernel
theorem d_Mod_readBlock_166 : decode b_Mod_readBlock 166 = .ok (.iload 9, 2) := by decide +kernel
theorem d_Mod_readBlock_168 : decode b_Mod_readBlock 168 = .ok (.bipush 16, 2) := by decide +kernel
theorem d_Mod_readBlock_170 : decode b_Mod_readBlock 170 = .ok (.if_icmp .ge 135, 3) := by decide +kernel
theorem d_Mod_readBlock_173 : decode b_Mod_readBlock 173 = .ok (.aload_n 0, 1) := by decide +kernel
theorem d_Mod_readBlock_174 : decode b_Mod_readBlock 174 = .ok (.getfield 550, 3) := by decide +kernel
theorem d_Mod_readBlock_177 : decode b_Mod_readBlock 177 = .ok (.iconst 1, 1) := by decide +kernel
theorem d_Mod_readBlock_178 : decode b_Mod_readBlock 178 = .ok (.if_icmp .eq 127, 3) := by decide +kernel
theorem d_Mod_readBlock_181 : decode b_Mod_readBlock 181 = .ok (.lconst 0, 1) := by decide +kernel
theorem d_Mod_readBlock_182 : decode b_Mod_readBlock 182 = .ok (.lstore 10, 2) := by decide +kernel
theorem d_Mod_readBlock_184 : decode b_Mod_readBlock 184 = .ok (.iconst 0, 1) := by decide +kernel
theorem d_Mod_readBlock_185 : decode b_Mod_readBlock 185 = .ok (.istore 12, 2) := by decide +kernel
theorem d_Mod_readBlock_163 : decode b_Mod_readBlock 163 = .ok (.iconst 0, 1) := by decide +kernel
theorem d_Mod_readBlock_164 : decode b_Mod_readBlock 164 = .ok (.istore 9, 2) := by decide +kernel
theorem d_Mod_readBlock_109 : decode b_Mod_readBlock 109 = .ok (.iload 7, 2) := by decide +kernel
theorem d_Mod_readBlock_111 : decode b_Mod_readBlock 111 = .ok (.iconst 4, 1) := by decide +kernel
theorem d_Mod_readBlock_112 : decode b_Mod_readBlock 112 = .ok (.if_icmp .ge 212, 3) := by decide +kernel
theorem d_Mod_readBlock_324 : decode b_Mod_readBlock 324 = .ok (.return_, 1) := by decide +kernel
theorem d_Mod_readBlock_115 : decode b_Mod_readBlock 115 = .ok (.aload_n 0, 1) := by decide +kernel
theorem d_Mod_readBlock_116 : decode b_Mod_readBlock 116 = .ok (.getfield 550, 3) := by decide +kernel
theorem d_Mod_readBlock_119 : decode b_Mod_readBlock 119 = .ok (.ifCond .ne 205, 3) := by decide +kernel
theorem d_Mod_readBlock_122 : decode b_Mod_readBlock 122 = .ok (.iload_n 1, 1) := by decide +kernel
theorem d_Mod_readBlock_123 : decode b_Mod_readBlock 123 = .ok (.bipush 16, 2) := by decide +kernel
theorem d_Mod_readBlock_125 : decode b_Mod_readBlock 125 = .ok (.iload 7, 2) := by decide +kernel
theorem d_Mod_readBlock_127 : decode b_Mod_readBlock 127 = .ok (.imul, 1) := by decide +kernel
theorem d_Mod_readBlock_128 : decode b_Mod_readBlock 128 = .ok (.iadd, 1) := by decide +kernel
theorem d_Mod_readBlock_129 : decode b_Mod_readBlock 129 = .ok (.iload_n 2, 1) := by decide +kernel
theorem d_Mod_readBlock_130 : decode b_Mod_readBlock 130 = .ok (.if_icmp .ge 194, 3) := by decide +kernel
theorem d_Mod_readBlock_133 : decode b_Mod_readBlock 133 = .ok (.aload_n 0, 1) := by decide +kernel
theorem d_Mod_readBlock_134 : decode b_Mod_readBlock 134 = .ok (.getfield 133, 3) := by decide +kernel
theorem d_Mod_readBlock_137 : decode b_Mod_readBlock 137 = .ok (.iload 6, 2) := by decide +kernel
theorem d_Mod_readBlock_139 : decode b_Mod_readBlock 139 = .ok (.iload 7, 2) := by decide +kernel
theorem d_Mod_readBlock_141 : decode b_Mod_readBlock 141 = .ok (.iadd, 1) := by decide +kernel
theorem d_Mod_readBlock_142 : decode b_Mod_readBlock 142 = .ok (.iaload, 1) := by decide +kernel
theorem d_Mod_readBlock_143 : decode b_Mod_readBlock 143 = .ok (.istore 8, 2) := by decide +kernel
theorem d_Mod_readBlock_145 : decode b_Mod_readBlock 145 = .ok (.iload_n 3, 1) := by decide +kernel
theorem d_Mod_readBlock_146 : decode b_Mod_readBlock 146 = .ok (.aload_n 0, 1) := by decide +kernel
theorem d_Mod_readBlock_147 : decode b_Mod_readBlock 147 = .ok (.getfield 553, 3) := by decide +kernel
theorem d_Mod_readBlock_150 : decode b_Mod_readBlock 150 = .ok (.isub, 1) := by decide +kernel
theorem d_Mod_readBlock_151 : decode b_Mod_readBlock 151 = .ok (.iconst 2, 1) := by decide +kernel
theorem d_Mod_readBlock_152 : decode b_Mod_readBlock 152 = .ok (.iload 8, 2) := by decide +kernel
theorem d_Mod_readBlock_154 : decode b_Mod_readBlock 154 = .ok (.imul, 1) := by decide +kernel
theorem d_Mod_readBlock_155 : decode b_Mod_readBlock 155 = .ok (.if_icmp .ge 8, 3) := by decide +kernel
theorem d_Mod_readBlock_158 : decode b_Mod_readBlock 158 = .ok (.aload_n 0, 1) := by decide +kernel
theorem d_Mod_readBlock_159 : decode b_Mod_readBlock 159 = .ok (.iconst 1, 1) := by decide +kernel
theorem d_Mod_readBlock_160 : decode b_Mod_readBlock 160 = .ok (.putfield 550, 3) := by decide +kernel
theorem d_Mod_readBlock_106 : decode b_Mod_readBlock 106 = .ok (.iconst 0, 1) := by decide +kernel
theorem d_Mod_readBlock_107 : decode b_Mod_readBlock 107 = .ok (.istore 7, 2) := by decide +kernel
theorem d_Mod_readBlock_90 : decode b_Mod_readBlock 90 = .ok (.aload_n 0, 1) := by decide +kernel
theorem d_Mod_readBlock_91 : decode b_Mod_readBlock 91 = .ok (.dup, 1) := by decide +kernel
theorem d_Mod_readBlock_92 : decode b_Mod_readBlock 92 = .ok (.getfield 553, 3) := by decide +kernel
theorem d_Mod_readBlock_95 : decode b_Mod_readBlock 95 = .ok (.iconst 1, 1) := by decide +kernel
theorem d_Mod_readBlock_96 : decode b_Mod_readBlock 96 = .ok (.iadd, 1) := by decide +kernel
theorem d_Mod_readBlock_97 : decode b_Mod_readBlock 97 = .ok (.putfield 553, 3) := by decide +kernel
theorem d_Mod_readBlock_100 : decode b_Mod_readBlock 100 = .ok (.iinc 7 1, 3) := by decide +kernel
theorem d_Mod_readBlock_103 : decode b_Mod_readBlock 103 = .ok (.goto (-84), 3) := by decide +kernel
theorem d_Mod_readBlock_85 : decode b_Mod_readBlock 85 = .ok (.aload_n 0, 1) := by decide +kernel
theorem d_Mod_readBlock_86 : decode b_Mod_readBlock 86 = .ok (.iconst 5, 1) := by decide +kernel
theorem d_Mod_readBlock_87 : decode b_Mod_readBlock 87 = .ok (.putfield 550, 3) := by decide +kernel
theorem d_Mod_readBlock_19 : decode b_Mod_readBlock 19 = .ok (.iload 7, 2) := by decide +kernel
theorem d_Mod_readBlock_21 : decode b_Mod_readBlock 21 = .ok (.iconst 4, 1) := by decide +kernel
theorem d_Mod_readBlock_22 : decode b_Mod_readBlock 22 = .ok (.if_icmp .ge 84, 3) := by decide +kernel
theorem d_Mod_readBlock_25 : decode b_Mod_readBlock 25 = .ok (.aload_n 0, 1) := by decide +kernel
theorem d_Mod_readBlock_26 : decode b_Mod_readBlock 26 = .ok (.getfield 550, 3) := by decide +kernel
theorem d_Mod_readBlock_29 : decode b_Mod_readBlock 29 = .ok (.ifCond .ne 77, 3) := by decide +kernel
theorem d_Mod_readBlock_32 : decode b_Mod_readBlock 32 = .ok (.aload_n 0, 1) := by decide +kernel
theorem d_Mod_readBlock_33 : decode b_Mod_readBlock 33 = .ok (.getfield 553, 3) := by decide +kernel
theorem d_Mod_readBlock_36 : decode b_Mod_readBlock 36 = .ok (.iload_n 3, 1) := by decide +kernel
theorem d_Mod_readBlock_37 : decode b_Mod_readBlock 37 = .ok (.if_icmp .lt 11, 3) := by decide +kernel
theorem d_Mod_readBlock_48 : decode b_Mod_readBlock 48 = .ok (.aload_n 0, 1) := by decide +kernel
theorem d_Mod_readBlock_49 : decode b_Mod_readBlock 49 = .ok (.getfield 133, 3) := by decide +kernel
theorem d_Mod_readBlock_52 : decode b_Mod_readBlock 52 = .ok (.aload_n 0, 1) := by decide +kernel
theorem d_Mod_readBlock_53 : decode b_Mod_readBlock 53 = .ok (.getfield 553, 3) := by decide +kernel
theorem d_Mod_readBlock_56 : decode b_Mod_readBlock 56 = .ok (.iaload, 1) := by decide +kernel
theorem d_Mod_readBlock_57 : decode b_Mod_readBlock 57 = .ok (.bipush 64, 2) := by decide +kernel
theorem d_Mod_readBlock_59 : decode b_Mod_readBlock 59 = .ok (.if_icmp .gt 26, 3) := by decide +kernel
theorem d_Mod_readBlock_62 : decode b_Mod_readBlock 62 = .ok (.aload_n 0, 1) := by decide +kernel
theorem d_Mod_readBlock_63 : decode b_Mod_readBlock 63 = .ok (.getfield 133, 3) := by decide +kernel
theorem d_Mod_readBlock_66 : decode b_Mod_readBlock 66 = .ok (.aload_n 0, 1) := by decide +kernel
theorem d_Mod_readBlock_67 : decode b_Mod_readBlock 67 = .ok (.getfield 553, 3) := by decide +kernel
theorem d_Mod_readBlock_70 : decode b_Mod_readBlock 70 = .ok (.iaload, 1) := by decide +kernel
theorem d_Mod_readBlock_71 : decode b_Mod_readBlock 71 = .ok (.ifCond .le 19, 3) := by decide +kernel
theorem d_Mod_readBlock_74 : decode b_Mod_readBlock 74 = .ok (.iload_n 1, 1) := by decide +kernel
theorem d_Mod_readBlock_75 : decode b_Mod_readBlock 75 = .ok (.bipush 16, 2) := by decide +kernel
theorem d_Mod_readBlock_77 : decode b_Mod_readBlock 77 = .ok (.iload 7, 2) := by decide +kernel
theorem d_Mod_readBlock_79 : decode b_Mod_readBlock 79 = .ok (.imul, 1) := by decide +kernel
theorem d_Mod_readBlock_80 : decode b_Mod_readBlock 80 = .ok (.iadd, 1) := by decide +kernel
theorem d_Mod_readBlock_81 : decode b_Mod_readBlock 81 = .ok (.iload_n 2, 1) := by decide +kernel
theorem d_Mod_readBlock_82 : decode b_Mod_readBlock 82 = .ok (.if_icmp .lt 8, 3) := by decide +kernel
theorem d_Mod_readBlock_40 : decode b_Mod_readBlock 40 = .ok (.aload_n 0, 1) := by decide +kernel
theorem d_Mod_readBlock_41 : decode b_Mod_readBlock 41 = .ok (.iconst 1, 1) := by decide +kernel
theorem d_Mod_readBlock_42 : decode b_Mod_readBlock 42 = .ok (.putfield 550, 3) := by decide +kernel
theorem d_Mod_readBlock_45 : decode b_Mod_readBlock 45 = .ok (.goto 45, 3) := by decide +kernel
theorem d_Mod_readBlock_0 : decode b_Mod_readBlock 0 = .ok (.aload_n 0, 1) := by decide +kernel
theorem d_Mod_readBlock_1 : decode b_Mod_readBlock 1 = .ok (.iload_n 3, 1) := by decide +kernel
theorem d_Mod_readBlock_2 : decode b_Mod_readBlock 2 = .ok (.invokevirtual 571, 3) := by decide +kernel
theorem d_Mod_readBlock_5 : decode b_Mod_readBlock 5 = .ok (.invokestatic 616, 3) := by decide +kernel
theorem d_Mod_readBlock_8 : decode b_Mod_readBlock 8 = .ok (.lstore 4, 2) := by decide +kernel
theorem d_Mod_readBlock_10 : decode b_Mod_readBlock 10 = .ok (.aload_n 0, 1) := by decide +kernel
theorem d_Mod_readBlock_11 : decode b_Mod_readBlock 11 = .ok (.getfield 553, 3) := by decide +kernel
theorem d_Mod_readBlock_14 : decode b_Mod_readBlock 14 = .ok (.istore 6, 2) := by decide +kernel
theorem d_Mod_readBlock_16 : decode b_Mod_readBlock 16 = .ok (.iconst 0, 1) := by decide +kernel
theorem d_Mod_readBlock_17 : decode b_Mod_readBlock 17 = .ok (.istore 7, 2) := by decide +kernel
section
variable (l : Launch) (dC : Nat → ClassId) (dI : Nat → Nat → Nat) (cI cB cJ cZ : ClassId)
set_option maxRecDepth 100000 in
set_option maxHeartbeats 4000000 in
set_option maxRecDepth 100000 in
theorem t_Mod_readBools_181 {p : Program} {l : Launch} {e : Env} {R : Room} {s : State} {m : MethodId} {args : Array Value} {below : List Frame} {meth : Method} {c : Code} {cells slots : Nat} {Q : State → Prop} {dC : Nat → ClassId} {dI : Nat → Nat → Nat} {cI cB cJ cZ : ClassId} {A : Nat → Prop} {ad : Nat → Nat} {post : St → Prop} (hx : p.tables.exec = Jvm.exec) (hb : c.code = b_Mod_readBools) (hml : c.maxLocals = 5) (hown : s.vm.findClass R_Mod = some m.cls) (hT : ∀ w ∈ TG, w.before args s = true) (hK : va_K (dC, dI) CL (TY cI cB cJ cZ) s) (hN : NW s) (hA : ∀ q : Nat, s.heap.size ≤ q → A q) (hRc : cells ≤ R.cells) (hRs : slots ≤ R.slots) (hRf : 3 ≤ R.frames) (hRl : 84 ≤ R.locals) (hret : ∀ (x : St) (H : Heap) (locs : List Loc) (pc : Nat) (ls : Array Slot), decode b_Mod_readBools pc = .ok (.return_, 1) → post x → Wd dC dI cI cB cJ cZ ad stM kcM 115 A x H → va_S A s.heap H locs → W p l e R s m args below meth c H locs cells slots Q (F0 m pc ls []))  : ∀ (l1 : Int32) (l2 : Int32) (l3 : Int32) (x : St) (H : Heap) (locs : List Loc) (ls : Array Slot), j_Mod_readBools_181 post l1 l2 l3 x → Wd dC dI cI cB cJ cZ ad stM kcM 115 A x H → va_S A s.heap H locs → lv_has ls 5 [(0, .ref (ad 0)), (1, .int l1), (2, .int l2), (3, .int l3)] → W p l e R s m args below meth c H locs cells slots Q (F0 m 181 ls []) := by
  intro l1 l2 l3 x H locs ls  hw hW hS hl
  unfold j_Mod_readBools_181 at hw
  refine lv_aload_n hx hb d_Mod_readBools_181 rfl (lv_at hl 0 rfl) ?_
  refine lv_dup hx hb d_Mod_readBools_182 rfl ?_
  refine w_geti (k := 67) (t := 12) (C := R_Mod) (T := F_Mod) (N := 167) hx hb hT hown hK hW ko_0.1 ko_0.2 (by decide) in_Mod rfl rfl (by decide) rfl fr_Mod_67 w_9_3 d_Mod_readBools_183 ?_
  refine lv_iload_n hx hb d_Mod_readBools_186 rfl (lv_at hl 2 rfl) ?_
  refine lv_bipush (v := 7) hx hb d_Mod_readBools_187 (by decide) ?_
  refine lv_iadd hx hb d_Mod_readBools_189 ?_
  refine lv_bipush (v := 8) hx hb d_Mod_readBools_190 (by decide) ?_
  refine lv_idiv hx hb d_Mod_readBools_192 (by decide) ?_
  refine lv_iadd hx hb d_Mod_readBools_193 ?_
  refine w_puti (ty := .int) (k := 67) (t := 12) (C := R_Mod) (T := F_Mod) (N := 167) hx hb hT hown hK hW hS ko_0.1 ko_0.2 (by decide) in_Mod t_Mod t_Mod_ok n_Mod rfl rfl (by decide) rfl fr_Mod_67 w_9_3 (by decide +kernel) rfl rfl d_Mod_readBools_194 (fun H locs hW hS => ?_)
  obtain ⟨x1219, ex1219⟩ : ∃ y : St, y = setI x 0 67 ((fI x 0 67) + ((l2 + 7) / 8)) := ⟨_, rfl⟩
  rw [← ex1219] at hW
  have hw := hw x1219 ex1219
  exact hret x1219 H locs 197 ls d_Mod_readBools_197 hw hW hS
set_option maxRecDepth 100000 in
set_option maxHeartbeats 4000000 in
set_option maxRecDepth 100000 in
theorem t_Mod_readBools_175 {p : Program} {l : Launch} {e : Env} {R : Room} {s : State} {m : MethodId} {args : Array Value} {below : List Frame} {meth : Method} {c : Code} {cells slots : Nat} {Q : State → Prop} {dC : Nat → ClassId} {dI : Nat → Nat → Nat} {cI cB cJ cZ : ClassId} {A : Nat → Prop} {ad : Nat → Nat} {post : St → Prop} {rec103 : Int32 → Int32 → Int32 → St → Prop} (hx : p.tables.exec = Jvm.exec) (hb : c.code = b_Mod_readBools) (hml : c.maxLocals = 5) (hown : s.vm.findClass R_Mod = some m.cls) (hT : ∀ w ∈ TG, w.before args s = true) (hK : va_K (dC, dI) CL (TY cI cB cJ cZ) s) (hN : NW s) (hA : ∀ q : Nat, s.heap.size ≤ q → A q) (hRc : cells ≤ R.cells) (hRs : slots ≤ R.slots) (hRf : 3 ≤ R.frames) (hRl : 84 ≤ R.locals) (hret : ∀ (x : St) (H : Heap) (locs : List Loc) (pc : Nat) (ls : Array Slot), decode b_Mod_readBools pc = .ok (.return_, 1) → post x → Wd dC dI cI cB cJ cZ ad stM kcM 115 A x H → va_S A s.heap H locs → W p l e R s m args below meth c H locs cells slots Q (F0 m pc ls [])) (hrec103 : ∀ (l1 : Int32) (l2 : Int32) (l3 : Int32) (x : St) (H : Heap) (locs : List Loc) (ls : Array Slot), rec103 l1 l2 l3 x → Wd dC dI cI cB cJ cZ ad stM kcM 115 A x H → va_S A s.heap H locs → lv_has ls 5 [(0, .ref (ad 0)), (1, .int l1), (2, .int l2), (3, .int l3)] → W p l e R s m args below meth c H locs cells slots Q (F0 m 103 ls [])) : ∀ (l1 : Int32) (l2 : Int32) (l3 : Int32) (l4 : Int32) (x : St) (H : Heap) (locs : List Loc) (ls : Array Slot), j_Mod_readBools_175 post rec103 l1 l2 l3 l4 x → Wd dC dI cI cB cJ cZ ad stM kcM 115 A x H → va_S A s.heap H locs → lv_has ls 5 [(0, .ref (ad 0)), (1, .int l1), (2, .int l2), (3, .int l3), (4, .int l4)] → W p l e R s m args below meth c H locs cells slots Q (F0 m 175 ls []) := by
  intro l1 l2 l3 l4 x H locs ls  hw hW hS hl
  unfold j_Mod_readBools_175 at hw
  refine lv_iinc (v := (l3 + 1)) (lv' := [(3, .int (l3 + 1)), (0, .ref (ad 0)), (1, .int l1), (2, .int l2), (4, .int l4)]) hx hb d_Mod_readBools_175 hl (k := 3) rfl rfl (by decide) rfl (fun ls hl => ?_)
  refine lv_goto (tgt := 103) hx hb d_Mod_readBools_178 (by decide) ?_
  exact hrec103 l1 l2 (l3 + 1) x H locs ls  hw hW hS (lv_sub hl [1, 2, 3, 0] rfl)
set_option maxRecDepth 100000 in
set_option maxHeartbeats 4000000 in
set_option maxRecDepth 100000 in
theorem t_Mod_readBools_103 {p : Program} {l : Launch} {e : Env} {R : Room} {s : State} {m : MethodId} {args : Array Value} {below : List Frame} {meth : Method} {c : Code} {cells slots : Nat} {Q : State → Prop} {dC : Nat → ClassId} {dI : Nat → Nat → Nat} {cI cB cJ cZ : ClassId} {A : Nat → Prop} {ad : Nat → Nat} {post : St → Prop} {rec103 : Int32 → Int32 → Int32 → St → Prop} (hx : p.tables.exec = Jvm.exec) (hb : c.code = b_Mod_readBools) (hml : c.maxLocals = 5) (hown : s.vm.findClass R_Mod = some m.cls) (hT : ∀ w ∈ TG, w.before args s = true) (hK : va_K (dC, dI) CL (TY cI cB cJ cZ) s) (hN : NW s) (hA : ∀ q : Nat, s.heap.size ≤ q → A q) (hRc : cells ≤ R.cells) (hRs : slots ≤ R.slots) (hRf : 3 ≤ R.frames) (hRl : 84 ≤ R.locals) (hret : ∀ (x : St) (H : Heap) (locs : List Loc) (pc : Nat) (ls : Array Slot), decode b_Mod_readBools pc = .ok (.return_, 1) → post x → Wd dC dI cI cB cJ cZ ad stM kcM 115 A x H → va_S A s.heap H locs → W p l e R s m args below meth c H locs cells slots Q (F0 m pc ls [])) (hrec103 : ∀ (l1 : Int32) (l2 : Int32) (l3 : Int32) (x : St) (H : Heap) (locs : List Loc) (ls : Array Slot), rec103 l1 l2 l3 x → Wd dC dI cI cB cJ cZ ad stM kcM 115 A x H → va_S A s.heap H locs → lv_has ls 5 [(0, .ref (ad 0)), (1, .int l1), (2, .int l2), (3, .int l3)] → W p l e R s m args below meth c H locs cells slots Q (F0 m 103 ls [])) : ∀ (l1 : Int32) (l2 : Int32) (l3 : Int32) (x : St) (H : Heap) (locs : List Loc) (ls : Array Slot), j_Mod_readBools_103 post rec103 l1 l2 l3 x → Wd dC dI cI cB cJ cZ ad stM kcM 115 A x H → va_S A s.heap H locs → lv_has ls 5 [(0, .ref (ad 0)), (1, .int l1), (2, .int l2), (3, .int l3)] → W p l e R s m args below meth c H locs cells slots Q (F0 m 103 ls []) := by
  intro l1 l2 l3 x H locs ls  hw hW hS hl
  unfold j_Mod_readBools_103 at hw
  refine lv_iload_n hx hb d_Mod_readBools_103 rfl (lv_at hl 3 rfl) ?_
  refine lv_iload_n hx hb d_Mod_readBools_104 rfl (lv_at hl 2 rfl) ?_
  refine lv_bipush (v := 7) hx hb d_Mod_readBools_105 (by decide) ?_
  refine lv_iadd hx hb d_Mod_readBools_107 ?_
  refine lv_bipush (v := 8) hx hb d_Mod_readBools_108 (by decide) ?_
  refine lv_idiv hx hb d_Mod_readBools_110 (by decide) ?_
  refine lv_bipush (v := 8) hx hb d_Mod_readBools_111 (by decide) ?_
  refine lv_imul hx hb d_Mod_readBools_113 ?_
  refine lv_icmp_ge (tgt := 181) hx hb d_Mod_readBools_114 (by decide) (fun c1220 => ?_) (fun c1220 => ?_)
  · have hw := hw.1 c1220
    exact t_Mod_readBools_181 hx hb hml hown hT hK hN hA hRc hRs hRf hRl hret  l1 l2 l3 x H locs ls  hw hW hS (lv_sub hl [0, 1, 2, 3] rfl)
  · have hw := hw.2 c1220
    refine lv_aload_n hx hb d_Mod_readBools_117 rfl (lv_at hl 0 rfl) ?_
    refine w_geti (k := 69) (t := 12) (C := R_Mod) (T := F_Mod) (N := 167) hx hb hT hown hK hW ko_0.1 ko_0.2 (by decide) in_Mod rfl rfl (by decide) rfl fr_Mod_69 w_9_5 d_Mod_readBools_118 ?_
    refine lv_if_ne (tgt := 181) hx hb d_Mod_readBools_121 (by decide) (fun c1221 => ?_) (fun c1221 => ?_)
    · have hw := hw.1 c1221
      exact t_Mod_readBools_181 hx hb hml hown hT hK hN hA hRc hRs hRf hRl hret  l1 l2 l3 x H locs ls  hw hW hS (lv_sub hl [0, 1, 2, 3] rfl)
    · have hw := hw.2 c1221
      refine lv_aload_n hx hb d_Mod_readBools_124 rfl (lv_at hl 0 rfl) ?_
      refine w_getf (q := 41) (k := 62) (t := 12) (C := R_Mod) (T := F_Mod) (N := 167) hx hb hT hown hK hW ko_0.1 ko_0.2 (by decide) in_Mod rfl rfl (by decide) rfl fr_Mod_62 w_8_238 d_Mod_readBools_125 rfl ?_
      refine lv_aload_n hx hb d_Mod_readBools_128 rfl (lv_at hl 0 rfl) ?_
      refine w_geti (k := 67) (t := 12) (C := R_Mod) (T := F_Mod) (N := 167) hx hb hT hown hK hW ko_0.1 ko_0.2 (by decide) in_Mod rfl rfl (by decide) rfl fr_Mod_67 w_9_3 d_Mod_readBools_129 ?_
      refine lv_iload_n hx hb d_Mod_readBools_132 rfl (lv_at hl 3 rfl) ?_
      refine lv_bipush (v := 8) hx hb d_Mod_readBools_133 (by decide) ?_
      refine lv_idiv hx hb d_Mod_readBools_135 (by decide) ?_
      refine lv_iadd hx hb d_Mod_readBools_136 ?_
      obtain ⟨hi, hw⟩ := hw
      refine w_iald (o := 41) hx hb hK hW ko_41.1 ko_41.2 hi d_Mod_readBools_137 ?_
      refine lv_iload_n hx hb d_Mod_readBools_138 rfl (lv_at hl 3 rfl) ?_
      refine lv_bipush (v := 8) hx hb d_Mod_readBools_139 (by decide) ?_
      refine lv_irem hx hb d_Mod_readBools_141 (by decide) ?_
      refine lv_ishr hx hb d_Mod_readBools_142 ?_
      refine lv_iconst (v := 1) hx hb d_Mod_readBools_143 (by decide) ?_
      refine lv_iand hx hb d_Mod_readBools_144 ?_
      refine lv_topi (fun v1222 ev1222 => ?_)
      have hw := hw v1222 ev1222
      refine lv_istore (lv' := [(4, .int v1222), (0, .ref (ad 0)), (1, .int l1), (2, .int l2), (3, .int l3)]) hx hb d_Mod_readBools_145 hl (by decide) rfl (fun ls hl => ?_)
      refine lv_iload_n hx hb d_Mod_readBools_147 rfl (lv_at hl 4 rfl) ?_
      refine lv_iload_n hx hb d_Mod_readBools_148 rfl (lv_at hl 3 rfl) ?_
      refine lv_icmp_ge (tgt := 164) hx hb d_Mod_readBools_149 (by decide) (fun c1223 => ?_) (fun c1223 => ?_)
      · have hw := hw.1 c1223
        refine lv_iload hx hb d_Mod_readBools_164 (lv_at hl 0 rfl) ?_
        refine lv_iconst (v := 1) hx hb d_Mod_readBools_166 (by decide) ?_
        refine lv_icmp_ne (tgt := 175) hx hb d_Mod_readBools_167 (by decide) (fun c1224 => ?_) (fun c1224 => ?_)
        · have hw := hw.1 c1224
          exact t_Mod_readBools_175 hx hb hml hown hT hK hN hA hRc hRs hRf hRl hret hrec103 l1 l2 l3 v1222 x H locs ls  hw hW hS (lv_sub hl [1, 2, 3, 4, 0] rfl)
        · have hw := hw.2 c1224
          refine lv_aload_n hx hb d_Mod_readBools_170 rfl (lv_at hl 1 rfl) ?_
          refine lv_iconst (v := 5) hx hb d_Mod_readBools_171 (by decide) ?_
          refine w_puti (ty := .int) (k := 69) (t := 12) (C := R_Mod) (T := F_Mod) (N := 167) hx hb hT hown hK hW hS ko_0.1 ko_0.2 (by decide) in_Mod t_Mod t_Mod_ok n_Mod rfl rfl (by decide) rfl fr_Mod_69 w_9_5 (by decide +kernel) rfl rfl d_Mod_readBools_172 (fun H locs hW hS => ?_)
          obtain ⟨x1225, ex1225⟩ : ∃ y : St, y = setI x 0 69 5 := ⟨_, rfl⟩
          rw [← ex1225] at hW
          have hw := hw x1225 ex1225
          exact t_Mod_readBools_175 hx hb hml hown hT hK hN hA hRc hRs hRf hRl hret hrec103 l1 l2 l3 v1222 x1225 H locs ls  hw hW hS (lv_sub hl [1, 2, 3, 4, 0] rfl)
      · have hw := hw.2 c1223
        refine lv_aload_n hx hb d_Mod_readBools_152 rfl (lv_at hl 1 rfl) ?_
        refine w_getf (q := 31) (k := 50) (t := 12) (C := R_Mod) (T := F_Mod) (N := 167) hx hb hT hown hK hW ko_0.1 ko_0.2 (by decide) in_Mod rfl rfl (by decide) rfl fr_Mod_50 w_8_226 d_Mod_readBools_153 rfl ?_
        refine lv_iload_n hx hb d_Mod_readBools_156 rfl (lv_at hl 4 rfl) ?_
        refine lv_iload hx hb d_Mod_readBools_157 (lv_at hl 0 rfl) ?_
        refine lv_i2l hx hb d_Mod_readBools_159 rfl ?_
        obtain ⟨hi, hw⟩ := hw
        refine w_last (o := 31) hx hb hK hW hS ko_31.1 ko_31.2 hi d_Mod_readBools_160 (fun H locs hW hS => ?_)
        obtain ⟨x1226, ex1226⟩ : ∃ y : St, y = setL x 31 l3 (v1222 : Int32).toInt64 := ⟨_, rfl⟩
        rw [← ex1226] at hW
        have hw := hw x1226 ex1226
        refine lv_goto (tgt := 175) hx hb d_Mod_readBools_161 (by decide) ?_
        exact t_Mod_readBools_175 hx hb hml hown hT hK hN hA hRc hRs hRf hRl hret hrec103 l1 l2 l3 v1222 x1226 H locs ls  hw hW hS (lv_sub hl [1, 2, 3, 4, 0] rfl)
set_option maxHeartbeats 4000000 in
set_option maxRecDepth 100000 in
theorem tl_Mod_readBools_103 {p : Program} {l : Launch} {e : Env} {R : Room} {s : State} {m : MethodId} {args : Array Value} {below : List Frame} {meth : Method} {c : Code} {cells slots : Nat} {Q : State → Prop} {dC : Nat → ClassId} {dI : Nat → Nat → Nat} {cI cB cJ cZ : ClassId} {A : Nat → Prop} {ad : Nat → Nat} {post : St → Prop} (hx : p.tables.exec = Jvm.exec) (hb : c.code = b_Mod_readBools) (hml : c.maxLocals = 5) (hown : s.vm.findClass R_Mod = some m.cls) (hT : ∀ w ∈ TG, w.before args s = true) (hK : va_K (dC, dI) CL (TY cI cB cJ cZ) s) (hN : NW s) (hA : ∀ q : Nat, s.heap.size ≤ q → A q) (hRc : cells ≤ R.cells) (hRs : slots ≤ R.slots) (hRf : 3 ≤ R.frames) (hRl : 84 ≤ R.locals) (hret : ∀ (x : St) (H : Heap) (locs : List Loc) (pc : Nat) (ls : Array Slot), decode b_Mod_readBools pc = .ok (.return_, 1) → post x → Wd dC dI cI cB cJ cZ ad stM kcM 115 A x H → va_S A s.heap H locs → W p l e R s m args below meth c H locs cells slots Q (F0 m pc ls []))  : ∀ n : Nat, ∀ (l1 : Int32) (l2 : Int32) (l3 : Int32) (x : St) (H : Heap) (locs : List Loc) (ls : Array Slot), wl_Mod_readBools_103 post n l1 l2 l3 x → Wd dC dI cI cB cJ cZ ad stM kcM 115 A x H → va_S A s.heap H locs → lv_has ls 5 [(0, .ref (ad 0)), (1, .int l1), (2, .int l2), (3, .int l3)] → W p l e R s m args below meth c H locs cells slots Q (F0 m 103 ls []) := by
  intro n
  induction n with
  | zero => intro l1 l2 l3 x H locs ls  hw; exact hw.elim
  | succ n ih => intro l1 l2 l3 x H locs ls  hw hW hS hl; exact t_Mod_readBools_103 hx hb hml hown hT hK hN hA hRc hRs hRf hRl hret  ih l1 l2 l3 x H locs ls  hw hW hS hl
set_option maxRecDepth 100000 in
set_option maxHeartbeats 4000000 in
set_option maxRecDepth 100000 in
theorem t_Mod_readBools_101 {p : Program} {l : Launch} {e : Env} {R : Room} {s : State} {m : MethodId} {args : Array Value} {below : List Frame} {meth : Method} {c : Code} {cells slots : Nat} {Q : State → Prop} {dC : Nat → ClassId} {dI : Nat → Nat → Nat} {cI cB cJ cZ : ClassId} {A : Nat → Prop} {ad : Nat → Nat} {post : St → Prop} (hx : p.tables.exec = Jvm.exec) (hb : c.code = b_Mod_readBools) (hml : c.maxLocals = 5) (hown : s.vm.findClass R_Mod = some m.cls) (hT : ∀ w ∈ TG, w.before args s = true) (hK : va_K (dC, dI) CL (TY cI cB cJ cZ) s) (hN : NW s) (hA : ∀ q : Nat, s.heap.size ≤ q → A q) (hRc : cells ≤ R.cells) (hRs : slots ≤ R.slots) (hRf : 3 ≤ R.frames) (hRl : 84 ≤ R.locals) (hret : ∀ (x : St) (H : Heap) (locs : List Loc) (pc : Nat) (ls : Array Slot), decode b_Mod_readBools pc = .ok (.return_, 1) → post x → Wd dC dI cI cB cJ cZ ad stM kcM 115 A x H → va_S A s.heap H locs → W p l e R s m args below meth c H locs cells slots Q (F0 m pc ls []))  : ∀ (l1 : Int32) (l2 : Int32) (x : St) (H : Heap) (locs : List Loc) (ls : Array Slot), j_Mod_readBools_101 post l1 l2 x → Wd dC dI cI cB cJ cZ ad stM kcM 115 A x H → va_S A s.heap H locs → lv_has ls 5 [(0, .ref (ad 0)), (1, .int l1), (2, .int l2)] → W p l e R s m args below meth c H locs cells slots Q (F0 m 101 ls []) := by
  intro l1 l2 x H locs ls  hw hW hS hl
  unfold j_Mod_readBools_101 at hw
  refine lv_iconst (v := 0) hx hb d_Mod_readBools_101 (by decide) ?_
  refine lv_istore_n (lv' := [(3, .int 0), (0, .ref (ad 0)), (1, .int l1), (2, .int l2)]) hx hb d_Mod_readBools_102 rfl hl (by decide) rfl (fun ls hl => ?_)
  obtain ⟨n, hw⟩ := hw
  exact tl_Mod_readBools_103 hx hb hml hown hT hK hN hA hRc hRs hRf hRl hret  n l1 l2 0 x H locs ls  hw hW hS (lv_sub hl [1, 2, 3, 0] rfl)
set_option maxRecDepth 100000 in
set_option maxHeartbeats 4000000 in
set_option maxRecDepth 100000 in
theorem t_Mod_readBools_45 {p : Program} {l : Launch} {e : Env} {R : Room} {s : State} {m : MethodId} {args : Array Value} {below : List Frame} {meth : Method} {c : Code} {cells slots : Nat} {Q : State → Prop} {dC : Nat → ClassId} {dI : Nat → Nat → Nat} {cI cB cJ cZ : ClassId} {A : Nat → Prop} {ad : Nat → Nat} {post : St → Prop} {rec45 : Int32 → Int32 → Int32 → St → Prop} (hx : p.tables.exec = Jvm.exec) (hb : c.code = b_Mod_readBools) (hml : c.maxLocals = 5) (hown : s.vm.findClass R_Mod = some m.cls) (hT : ∀ w ∈ TG, w.before args s = true) (hK : va_K (dC, dI) CL (TY cI cB cJ cZ) s) (hN : NW s) (hA : ∀ q : Nat, s.heap.size ≤ q → A q) (hRc : cells ≤ R.cells) (hRs : slots ≤ R.slots) (hRf : 3 ≤ R.frames) (hRl : 84 ≤ R.locals) (hret : ∀ (x : St) (H : Heap) (locs : List Loc) (pc : Nat) (ls : Array Slot), decode b_Mod_readBools pc = .ok (.return_, 1) → post x → Wd dC dI cI cB cJ cZ ad stM kcM 115 A x H → va_S A s.heap H locs → W p l e R s m args below meth c H locs cells slots Q (F0 m pc ls [])) (hrec45 : ∀ (l1 : Int32) (l2 : Int32) (l3 : Int32) (x : St) (H : Heap) (locs : List Loc) (ls : Array Slot), rec45 l1 l2 l3 x → Wd dC dI cI cB cJ cZ ad stM kcM 115 A x H → va_S A s.heap H locs → lv_has ls 5 [(0, .ref (ad 0)), (1, .int l1), (2, .int l2), (3, .int l3)] → W p l e R s m args below meth c H locs cells slots Q (F0 m 45 ls [])) : ∀ (l1 : Int32) (l2 : Int32) (l3 : Int32) (x : St) (H : Heap) (locs : List Loc) (ls : Array Slot), j_Mod_readBools_45 post rec45 l1 l2 l3 x → Wd dC dI cI cB cJ cZ ad stM kcM 115 A x H → va_S A s.heap H locs → lv_has ls 5 [(0, .ref (ad 0)), (1, .int l1), (2, .int l2), (3, .int l3)] → W p l e R s m args below meth c H locs cells slots Q (F0 m 45 ls []) := by
  intro l1 l2 l3 x H locs ls  hw hW hS hl
  unfold j_Mod_readBools_45 at hw
  refine lv_iload_n hx hb d_Mod_readBools_45 rfl (lv_at hl 3 rfl) ?_
  refine lv_iload_n hx hb d_Mod_readBools_46 rfl (lv_at hl 2 rfl) ?_
  refine lv_icmp_ge (tgt := 76) hx hb d_Mod_readBools_47 (by decide) (fun c1227 => ?_) (fun c1227 => ?_)
  · have hw := hw.1 c1227
    exact hret x H locs 76 ls d_Mod_readBools_76 hw hW hS
  · have hw := hw.2 c1227
    refine lv_aload_n hx hb d_Mod_readBools_50 rfl (lv_at hl 0 rfl) ?_
    refine w_geti (k := 69) (t := 12) (C := R_Mod) (T := F_Mod) (N := 167) hx hb hT hown hK hW ko_0.1 ko_0.2 (by decide) in_Mod rfl rfl (by decide) rfl fr_Mod_69 w_9_5 d_Mod_readBools_51 ?_
    refine lv_if_ne (tgt := 76) hx hb d_Mod_readBools_54 (by decide) (fun c1228 => ?_) (fun c1228 => ?_)
    · have hw := hw.1 c1228
      exact hret x H locs 76 ls d_Mod_readBools_76 hw hW hS
    · have hw := hw.2 c1228
      refine lv_aload_n hx hb d_Mod_readBools_57 rfl (lv_at hl 0 rfl) ?_
      refine w_getf (q := 31) (k := 50) (t := 12) (C := R_Mod) (T := F_Mod) (N := 167) hx hb hT hown hK hW ko_0.1 ko_0.2 (by decide) in_Mod rfl rfl (by decide) rfl fr_Mod_50 w_8_226 d_Mod_readBools_58 rfl ?_
      refine lv_iload_n hx hb d_Mod_readBools_61 rfl (lv_at hl 3 rfl) ?_
      refine lv_aload_n hx hb d_Mod_readBools_62 rfl (lv_at hl 0 rfl) ?_
      refine w_getf (q := 44) (k := 72) (t := 12) (C := R_Mod) (T := F_Mod) (N := 167) hx hb hT hown hK hW ko_0.1 ko_0.2 (by decide) in_Mod rfl rfl (by decide) rfl fr_Mod_72 w_9_8 d_Mod_readBools_63 rfl ?_
      refine lv_iload_n hx hb d_Mod_readBools_66 rfl (lv_at hl 3 rfl) ?_
      obtain ⟨hi, hw⟩ := hw
      refine w_iald (o := 44) hx hb hK hW ko_44.1 ko_44.2 hi d_Mod_readBools_67 ?_
      refine lv_i2l hx hb d_Mod_readBools_68 rfl ?_
      obtain ⟨hi, hw⟩ := hw
      refine w_last (o := 31) hx hb hK hW hS ko_31.1 ko_31.2 hi d_Mod_readBools_69 (fun H locs hW hS => ?_)
      obtain ⟨x1229, ex1229⟩ : ∃ y : St, y = setL x 31 l3 ((rA x 44 l3) : Int32).toInt64 := ⟨_, rfl⟩
      rw [← ex1229] at hW
      have hw := hw x1229 ex1229
      refine lv_iinc (v := (l3 + 1)) (lv' := [(3, .int (l3 + 1)), (0, .ref (ad 0)), (1, .int l1), (2, .int l2)]) hx hb d_Mod_readBools_70 hl (k := 3) rfl rfl (by decide) rfl (fun ls hl => ?_)
      refine lv_goto (tgt := 45) hx hb d_Mod_readBools_73 (by decide) ?_
      exact hrec45 l1 l2 (l3 + 1) x1229 H locs ls  hw hW hS (lv_sub hl [1, 2, 3, 0] rfl)
set_option maxHeartbeats 4000000 in
set_option maxRecDepth 100000 in
theorem tl_Mod_readBools_45 {p : Program} {l : Launch} {e : Env} {R : Room} {s : State} {m : MethodId} {args : Array Value} {below : List Frame} {meth : Method} {c : Code} {cells slots : Nat} {Q : State → Prop} {dC : Nat → ClassId} {dI : Nat → Nat → Nat} {cI cB cJ cZ : ClassId} {A : Nat → Prop} {ad : Nat → Nat} {post : St → Prop} (hx : p.tables.exec = Jvm.exec) (hb : c.code = b_Mod_readBools) (hml : c.maxLocals = 5) (hown : s.vm.findClass R_Mod = some m.cls) (hT : ∀ w ∈ TG, w.before args s = true) (hK : va_K (dC, dI) CL (TY cI cB cJ cZ) s) (hN : NW s) (hA : ∀ q : Nat, s.heap.size ≤ q → A q) (hRc : cells ≤ R.cells) (hRs : slots ≤ R.slots) (hRf : 3 ≤ R.frames) (hRl : 84 ≤ R.locals) (hret : ∀ (x : St) (H : Heap) (locs : List Loc) (pc : Nat) (ls : Array Slot), decode b_Mod_readBools pc = .ok (.return_, 1) → post x → Wd dC dI cI cB cJ cZ ad stM kcM 115 A x H → va_S A s.heap H locs → W p l e R s m args below meth c H locs cells slots Q (F0 m pc ls []))  : ∀ n : Nat, ∀ (l1 : Int32) (l2 : Int32) (l3 : Int32) (x : St) (H : Heap) (locs : List Loc) (ls : Array Slot), wl_Mod_readBools_45 post n l1 l2 l3 x → Wd dC dI cI cB cJ cZ ad stM kcM 115 A x H → va_S A s.heap H locs → lv_has ls 5 [(0, .ref (ad 0)), (1, .int l1), (2, .int l2), (3, .int l3)] → W p l e R s m args below meth c H locs cells slots Q (F0 m 45 ls []) := by
  intro n
  induction n with
  | zero => intro l1 l2 l3 x H locs ls  hw; exact hw.elim
  | succ n ih => intro l1 l2 l3 x H locs ls  hw hW hS hl; exact t_Mod_readBools_45 hx hb hml hown hT hK hN hA hRc hRs hRf hRl hret  ih l1 l2 l3 x H locs ls  hw hW hS hl
set_option maxRecDepth 100000 in
set_option maxHeartbeats 4000000 in
set_option maxRecDepth 100000 in
theorem t_Mod_readBools_43 {p : Program} {l : Launch} {e : Env} {R : Room} {s : State} {m : MethodId} {args : Array Value} {below : List Frame} {meth : Method} {c : Code} {cells slots : Nat} {Q : State → Prop} {dC : Nat → ClassId} {dI : Nat → Nat → Nat} {cI cB cJ cZ : ClassId} {A : Nat → Prop} {ad : Nat → Nat} {post : St → Prop} (hx : p.tables.exec = Jvm.exec) (hb : c.code = b_Mod_readBools) (hml : c.maxLocals = 5) (hown : s.vm.findClass R_Mod = some m.cls) (hT : ∀ w ∈ TG, w.before args s = true) (hK : va_K (dC, dI) CL (TY cI cB cJ cZ) s) (hN : NW s) (hA : ∀ q : Nat, s.heap.size ≤ q → A q) (hRc : cells ≤ R.cells) (hRs : slots ≤ R.slots) (hRf : 3 ≤ R.frames) (hRl : 84 ≤ R.locals) (hret : ∀ (x : St) (H : Heap) (locs : List Loc) (pc : Nat) (ls : Array Slot), decode b_Mod_readBools pc = .ok (.return_, 1) → post x → Wd dC dI cI cB cJ cZ ad stM kcM 115 A x H → va_S A s.heap H locs → W p l e R s m args below meth c H locs cells slots Q (F0 m pc ls []))  : ∀ (l1 : Int32) (l2 : Int32) (x : St) (H : Heap) (locs : List Loc) (ls : Array Slot), j_Mod_readBools_43 post l1 l2 x → Wd dC dI cI cB cJ cZ ad stM kcM 115 A x H → va_S A s.heap H locs → lv_has ls 5 [(0, .ref (ad 0)), (1, .int l1), (2, .int l2)] → W p l e R s m args below meth c H locs cells slots Q (F0 m 43 ls []) := by
  intro l1 l2 x H locs ls  hw hW hS hl
  unfold j_Mod_readBools_43 at hw
  refine lv_iconst (v := 0) hx hb d_Mod_readBools_43 (by decide) ?_
  refine lv_istore_n (lv' := [(3, .int 0), (0, .ref (ad 0)), (1, .int l1), (2, .int l2)]) hx hb d_Mod_readBools_44 rfl hl (by decide) rfl (fun ls hl => ?_)
  obtain ⟨n, hw⟩ := hw
  exact tl_Mod_readBools_45 hx hb hml hown hT hK hN hA hRc hRs hRf hRl hret  n l1 l2 0 x H locs ls  hw hW hS (lv_sub hl [1, 2, 3, 0] rfl)
set_option maxRecDepth 100000 in
set_option maxHeartbeats 4000000 in
set_option maxRecDepth 100000 in
theorem t_Mod_readBools_e {p : Program} {l : Launch} {e : Env} {R : Room} {s : State} {m : MethodId} {args : Array Value} {below : List Frame} {meth : Method} {c : Code} {cells slots : Nat} {Q : State → Prop} {dC : Nat → ClassId} {dI : Nat → Nat → Nat} {cI cB cJ cZ : ClassId} {A : Nat → Prop} {ad : Nat → Nat} {post : St → Prop} (hx : p.tables.exec = Jvm.exec) (hb : c.code = b_Mod_readBools) (hml : c.maxLocals = 5) (hown : s.vm.findClass R_Mod = some m.cls) (hT : ∀ w ∈ TG, w.before args s = true) (hK : va_K (dC, dI) CL (TY cI cB cJ cZ) s) (hN : NW s) (hA : ∀ q : Nat, s.heap.size ≤ q → A q) (hRc : cells ≤ R.cells) (hRs : slots ≤ R.slots) (hRf : 3 ≤ R.frames) (hRl : 84 ≤ R.locals) (hret : ∀ (x : St) (H : Heap) (locs : List Loc) (pc : Nat) (ls : Array Slot), decode b_Mod_readBools pc = .ok (.return_, 1) → post x → Wd dC dI cI cB cJ cZ ad stM kcM 115 A x H → va_S A s.heap H locs → W p l e R s m args below meth c H locs cells slots Q (F0 m pc ls [])) : ∀ (l1 : Int32) (l2 : Int32) (x : St) (H : Heap) (locs : List Loc) (ls : Array Slot), wp_Mod_readBools post l1 l2 x → Wd dC dI cI cB cJ cZ ad stM kcM 115 A x H → va_S A s.heap H locs → lv_has ls 5 [(0, .ref (ad 0)), (1, .int l1), (2, .int l2)] → W p l e R s m args below meth c H locs cells slots Q (F0 m 0 ls []) := by
  intro l1 l2 x H locs ls  hw hW hS hl
  unfold wp_Mod_readBools at hw
  refine lv_iload_n hx hb d_Mod_readBools_0 rfl (lv_at hl 1 rfl) ?_
  refine lv_iconst (v := 1) hx hb d_Mod_readBools_1 (by decide) ?_
  refine lv_icmp_ne (tgt := 77) hx hb d_Mod_readBools_2 (by decide) (fun c1230 => ?_) (fun c1230 => ?_)
  · have hw := hw.1 c1230
    refine lv_aload_n hx hb d_Mod_readBools_77 rfl (lv_at hl 0 rfl) ?_
    refine w_geti (k := 68) (t := 12) (C := R_Mod) (T := F_Mod) (N := 167) hx hb hT hown hK hW ko_0.1 ko_0.2 (by decide) in_Mod rfl rfl (by decide) rfl fr_Mod_68 w_9_4 d_Mod_readBools_78 ?_
    refine lv_aload_n hx hb d_Mod_readBools_81 rfl (lv_at hl 0 rfl) ?_
    refine w_geti (k := 67) (t := 12) (C := R_Mod) (T := F_Mod) (N := 167) hx hb hT hown hK hW ko_0.1 ko_0.2 (by decide) in_Mod rfl rfl (by decide) rfl fr_Mod_67 w_9_3 d_Mod_readBools_82 ?_
    refine lv_isub hx hb d_Mod_readBools_85 ?_
    refine lv_iload_n hx hb d_Mod_readBools_86 rfl (lv_at hl 2 rfl) ?_
    refine lv_bipush (v := 7) hx hb d_Mod_readBools_87 (by decide) ?_
    refine lv_iadd hx hb d_Mod_readBools_89 ?_
    refine lv_bipush (v := 8) hx hb d_Mod_readBools_90 (by decide) ?_
    refine lv_idiv hx hb d_Mod_readBools_92 (by decide) ?_
    refine lv_icmp_ge (tgt := 101) hx hb d_Mod_readBools_93 (by decide) (fun c1231 => ?_) (fun c1231 => ?_)
    · have hw := hw.1 c1231
      exact t_Mod_readBools_101 hx hb hml hown hT hK hN hA hRc hRs hRf hRl hret  l1 l2 x H locs ls  hw hW hS (lv_sub hl [0, 1, 2] rfl)
    · have hw := hw.2 c1231
      refine lv_aload_n hx hb d_Mod_readBools_96 rfl (lv_at hl 0 rfl) ?_
      refine lv_iconst (v := 1) hx hb d_Mod_readBools_97 (by decide) ?_
      refine w_puti (ty := .int) (k := 69) (t := 12) (C := R_Mod) (T := F_Mod) (N := 167) hx hb hT hown hK hW hS ko_0.1 ko_0.2 (by decide) in_Mod t_Mod t_Mod_ok n_Mod rfl rfl (by decide) rfl fr_Mod_69 w_9_5 (by decide +kernel) rfl rfl d_Mod_readBools_98 (fun H locs hW hS => ?_)
      obtain ⟨x1232, ex1232⟩ : ∃ y : St, y = setI x 0 69 1 := ⟨_, rfl⟩
      rw [← ex1232] at hW
      have hw := hw x1232 ex1232
      exact t_Mod_readBools_101 hx hb hml hown hT hK hN hA hRc hRs hRf hRl hret  l1 l2 x1232 H locs ls  hw hW hS (lv_sub hl [0, 1, 2] rfl)
  · have hw := hw.2 c1230
    refine lv_aload_n hx hb d_Mod_readBools_5 rfl (lv_at hl 0 rfl) ?_
    refine lv_aload_n hx hb d_Mod_readBools_6 rfl (lv_at hl 0 rfl) ?_
    refine w_getf (q := 44) (k := 72) (t := 12) (C := R_Mod) (T := F_Mod) (N := 167) hx hb hT hown hK hW ko_0.1 ko_0.2 (by decide) in_Mod rfl rfl (by decide) rfl fr_Mod_72 w_9_8 d_Mod_readBools_7 rfl ?_
    refine lv_iload_n hx hb d_Mod_readBools_10 rfl (lv_at hl 2 rfl) ?_
    refine lv_iconst (v := 1) hx hb d_Mod_readBools_11 (by decide) ?_
    refine lv_aload_n hx hb d_Mod_readBools_12 rfl (lv_at hl 0 rfl) ?_
    refine w_geti (k := 68) (t := 12) (C := R_Mod) (T := F_Mod) (N := 167) hx hb hT hown hK hW ko_0.1 ko_0.2 (by decide) in_Mod rfl rfl (by decide) rfl fr_Mod_68 w_9_4 d_Mod_readBools_13 ?_
    have hF := hW.free hS hA
    refine va_callv (va_runV (C := R_Mod) (As := [.ref (ad 44), .int l2, .int 1, .int (fI x 0 68)]) (rest := []) ⟨hx, hb, hml, hown, hT⟩ (k_Mod_readRuns l dC dI cI cB cJ cZ ad H.size 44 l2 1 (fI x 0 68) x ko_44 hw) ⟨callB_of 4 hT (gwt_in w_12_181) rfl rfl rfl (hT _ w_1_15) (hT _ w_12_178) (by decide +kernel) ⟨Nat.le_trans (Nat.le_of_ble_eq_true rfl) hRf, Nat.le_trans (Nat.le_of_ble_eq_true rfl) hRl⟩, hT _ w_12_180, hT _ ws_199⟩ ⟨PW.blind, va_recv hK hW.1 (ci := 12) (q0 := 0) rfl (pic_obj ko_0.1 ko_0.2 (by decide)), PW.at _ hW hK hN⟩ rfl rfl hl.1 rfl (lv_room (Nat.le_of_ble_eq_true rfl)) d_Mod_readBools_16 ⟨hRc, hRs⟩) hS (fun q _ h => hF q h) hF (fun  x1233 t H locs ht hvm hw hB hz1 hk1 hS => ?_)
    have hW := Wd.back hB ht hF
    clear hB ht hF hz1 hk1 hvm
    refine lv_aload_n hx hb d_Mod_readBools_19 rfl (lv_at hl 0 rfl) ?_
    refine w_geti (k := 69) (t := 12) (C := R_Mod) (T := F_Mod) (N := 167) hx hb hT hown hK hW ko_0.1 ko_0.2 (by decide) in_Mod rfl rfl (by decide) rfl fr_Mod_69 w_9_5 d_Mod_readBools_20 ?_
    refine lv_if_ne (tgt := 43) hx hb d_Mod_readBools_23 (by decide) (fun c1234 => ?_) (fun c1234 => ?_)
    · have hw := hw.1 c1234
      exact t_Mod_readBools_43 hx hb hml hown hT hK hN hA hRc hRs hRf hRl hret  l1 l2 x1233 H locs ls  hw hW hS (lv_sub hl [0, 1, 2] rfl)
    · have hw := hw.2 c1234
      refine lv_aload_n hx hb d_Mod_readBools_26 rfl (lv_at hl 0 rfl) ?_
      refine w_geti (k := 67) (t := 12) (C := R_Mod) (T := F_Mod) (N := 167) hx hb hT hown hK hW ko_0.1 ko_0.2 (by decide) in_Mod rfl rfl (by decide) rfl fr_Mod_67 w_9_3 d_Mod_readBools_27 ?_
      refine lv_aload_n hx hb d_Mod_readBools_30 rfl (lv_at hl 0 rfl) ?_
      refine w_geti (k := 68) (t := 12) (C := R_Mod) (T := F_Mod) (N := 167) hx hb hT hown hK hW ko_0.1 ko_0.2 (by decide) in_Mod rfl rfl (by decide) rfl fr_Mod_68 w_9_4 d_Mod_readBools_31 ?_
      refine lv_icmp_ge (tgt := 43) hx hb d_Mod_readBools_34 (by decide) (fun c1235 => ?_) (fun c1235 => ?_)
      · have hw := hw.1 c1235
        exact t_Mod_readBools_43 hx hb hml hown hT hK hN hA hRc hRs hRf hRl hret  l1 l2 x1233 H locs ls  hw hW hS (lv_sub hl [0, 1, 2] rfl)
      · have hw := hw.2 c1235
        refine lv_aload_n hx hb d_Mod_readBools_37 rfl (lv_at hl 0 rfl) ?_
        refine lv_bipush (v := 6) hx hb d_Mod_readBools_38 (by decide) ?_
        refine w_puti (ty := .int) (k := 69) (t := 12) (C := R_Mod) (T := F_Mod) (N := 167) hx hb hT hown hK hW hS ko_0.1 ko_0.2 (by decide) in_Mod t_Mod t_Mod_ok n_Mod rfl rfl (by decide) rfl fr_Mod_69 w_9_5 (by decide +kernel) rfl rfl d_Mod_readBools_40 (fun H locs hW hS => ?_)
        obtain ⟨x1236, ex1236⟩ : ∃ y : St, y = setI x1233 0 69 6 := ⟨_, rfl⟩
        rw [← ex1236] at hW
        have hw := hw x1236 ex1236
        exact t_Mod_readBools_43 hx hb hml hown hT hK hN hA hRc hRs hRf hRl hret  l1 l2 x1236 H locs ls  hw hW hS (lv_sub hl [0, 1, 2] rfl)
set_option maxHeartbeats 4000000 in
set_option maxRecDepth 100000 in
theorem k_Mod_readBools (l : Launch) (dC : Nat → ClassId) (dI : Nat → Nat → Nat) (cI cB cJ cZ : ClassId) (ad : Nat → Nat) (sz : Nat) (l1 : Int32) (l2 : Int32) (x : St) {post : St → Prop} (hw : wp_Mod_readBools post l1 l2 x) : Met l y_Mod_readBools (wsOf y_Mod_readBools b_Mod_readBools 5 (none)) ({ frames := 3, cells := 0, slots := 0, locals := 84 }) (va_Pc [.ref (ad 0), .int l1, .int l2] (PW dC dI cI cB cJ cZ ad stM kcM 115 sz x)) (va_Qv (fun (y : St) => post y) (fun y t => Wd dC dI cI cB cJ cZ ad stM kcM 115 (va_A (pic ad stM kcM 115 cI cB cJ cZ x) sz) y t.heap) (va_A (pic ad stM kcM 115 cI cB cJ cZ x) sz)) 0 0 (va_A (pic ad stM kcM 115 cI cB cJ cZ x) sz) := by
  refine Met.ofW (cc := b_Mod_readBools) (maxL := 5) (ret := none) (by decide) rfl ?_
  intro p e s m args below meth c s₁ B hml hv
  obtain ⟨rfl, hsz, hW0, hK, hN⟩ := hv
  have hx := B.exec
  have hb := B.bytes
  have hr := B.returns
  have hts := atoms_spec B.pre
  have hT : ∀ w ∈ TG, w.before _ s = true := fun w h => hts w (List.mem_cons_of_mem _ h)
  have hown : s.vm.findClass R_Mod = some m.cls := findClass_of_methodNamed B.named
  have hlocks := B.notSynchronized
  subst hsz
  have hW : Wd dC dI cI cB cJ cZ ad stM kcM 115 (va_A (pic ad stM kcM 115 cI cB cJ cZ x) s.heap.size) x s.heap := ⟨hW0.1, hW0.2.1.self (sz := s.heap.size), hW0.2.2⟩
  generalize hAe : va_A (pic ad stM kcM 115 cI cB cJ cZ x) s.heap.size = A at hW ⊢
  have hA : ∀ q : Nat, s.heap.size ≤ q → A q := fun q h => by rw [← hAe]; exact Or.inr h
  have hS : va_S A s.heap s.heap [] := va_S.rf
  have hl := lv_entry ([.ref (ad 0), .int l1, .int l2]) (n := 5) (Nat.le_of_ble_eq_true rfl)
  rw [lg_entry_eq]
  generalize (lg_sl ([.ref (ad 0), .int l1, .int l2]) ++ List.replicate (5 - (lg_sl ([.ref (ad 0), .int l1, .int l2])).length) Slot.unset).toArray = ls at hl ⊢
  have hl : lv_has ls 5 [(0, .ref (ad 0)), (1, .int l1), (2, .int l2)] := hl
  exact t_Mod_readBools_e hx hb hml hown hT hK hN hA (Nat.le_refl 0) (Nat.le_refl 0) (Nat.le_refl 3) (Nat.le_refl 84) (fun x H locs pc ls hd hp hW hS => W.vret hx hb hr (fun t ht hM => ⟨⟨x, rfl, hp, Wd.back hW ht.symm (fun _ z => z)⟩, hS.F ht⟩) hS.2.2 hd hlocks)  l1 l2 x _ _ ls  hw hW hS hl
set_option maxRecDepth 100000 in
set_option maxHeartbeats 4000000 in
set_option maxRecDepth 100000 in
theorem t_Mod_takeText_110 {p : Program} {l : Launch} {e : Env} {R : Room} {s : State} {m : MethodId} {args : Array Value} {below : List Frame} {meth : Method} {c : Code} {cells slots : Nat} {Q : State → Prop} {dC : Nat → ClassId} {dI : Nat → Nat → Nat} {cI cB cJ cZ : ClassId} {A : Nat → Prop} {ad : Nat → Nat} {post : St → Prop} {rec110 : Int32 → Int32 → Int32 → Int32 → St → Prop} (hx : p.tables.exec = Jvm.exec) (hb : c.code = b_Mod_takeText) (hml : c.maxLocals = 5) (hown : s.vm.findClass R_Mod = some m.cls) (hT : ∀ w ∈ TG, w.before args s = true) (hK : va_K (dC, dI) CL (TY cI cB cJ cZ) s) (hN : NW s) (hA : ∀ q : Nat, s.heap.size ≤ q → A q) (hRc : cells ≤ R.cells) (hRs : slots ≤ R.slots) (hRf : 0 ≤ R.frames) (hRl : 0 ≤ R.locals) (hret : ∀ (x : St) (H : Heap) (locs : List Loc) (pc : Nat) (ls : Array Slot), decode b_Mod_takeText pc = .ok (.return_, 1) → post x → Wd dC dI cI cB cJ cZ ad stM kcM 115 A x H → va_S A s.heap H locs → W p l e R s m args below meth c H locs cells slots Q (F0 m pc ls [])) (hrec110 : ∀ (l1 : Int32) (l2 : Int32) (l3 : Int32) (l4 : Int32) (x : St) (H : Heap) (locs : List Loc) (ls : Array Slot), rec110 l1 l2 l3 l4 x → Wd dC dI cI cB cJ cZ ad stM kcM 115 A x H → va_S A s.heap H locs → lv_has ls 5 [(0, .ref (ad 0)), (1, .int l1), (2, .int l2), (3, .int l3), (4, .int l4)] → W p l e R s m args below meth c H locs cells slots Q (F0 m 110 ls [])) : ∀ (l1 : Int32) (l2 : Int32) (l3 : Int32) (l4 : Int32) (x : St) (H : Heap) (locs : List Loc) (ls : Array Slot), j_Mod_takeText_110 post rec110 l1 l2 l3 l4 x → Wd dC dI cI cB cJ cZ ad stM kcM 115 A x H → va_S A s.heap H locs → lv_has ls 5 [(0, .ref (ad 0)), (1, .int l1), (2, .int l2), (3, .int l3), (4, .int l4)] → W p l e R s m args below meth c H locs cells slots Q (F0 m 110 ls []) := by
  intro l1 l2 l3 l4 x H locs ls  hw hW hS hl
  unfold j_Mod_takeText_110 at hw
  refine lv_iload hx hb d_Mod_takeText_110 (lv_at hl 4 rfl) ?_
  refine lv_iload_n hx hb d_Mod_takeText_112 rfl (lv_at hl 1 rfl) ?_
  refine lv_icmp_ge (tgt := 145) hx hb d_Mod_takeText_113 (by decide) (fun c1237 => ?_) (fun c1237 => ?_)
  · have hw := hw.1 c1237
    refine lv_aload_n hx hb d_Mod_takeText_145 rfl (lv_at hl 0 rfl) ?_
    refine lv_dup hx hb d_Mod_takeText_146 rfl ?_
    refine w_geti (k := 67) (t := 12) (C := R_Mod) (T := F_Mod) (N := 167) hx hb hT hown hK hW ko_0.1 ko_0.2 (by decide) in_Mod rfl rfl (by decide) rfl fr_Mod_67 w_9_3 d_Mod_takeText_147 ?_
    refine lv_iload_n hx hb d_Mod_takeText_150 rfl (lv_at hl 1 rfl) ?_
    refine lv_iadd hx hb d_Mod_takeText_151 ?_
    refine w_puti (ty := .int) (k := 67) (t := 12) (C := R_Mod) (T := F_Mod) (N := 167) hx hb hT hown hK hW hS ko_0.1 ko_0.2 (by decide) in_Mod t_Mod t_Mod_ok n_Mod rfl rfl (by decide) rfl fr_Mod_67 w_9_3 (by decide +kernel) rfl rfl d_Mod_takeText_152 (fun H locs hW hS => ?_)
    obtain ⟨x1238, ex1238⟩ : ∃ y : St, y = setI x 0 67 ((fI x 0 67) + l1) := ⟨_, rfl⟩
    rw [← ex1238] at hW
    have hw := hw x1238 ex1238
    refine lv_aload_n hx hb d_Mod_takeText_155 rfl (lv_at hl 0 rfl) ?_
    refine lv_dup hx hb d_Mod_takeText_156 rfl ?_
    refine w_geti (k := 58) (t := 12) (C := R_Mod) (T := F_Mod) (N := 167) hx hb hT hown hK hW ko_0.1 ko_0.2 (by decide) in_Mod rfl rfl (by decide) rfl fr_Mod_58 w_8_234 d_Mod_takeText_157 ?_
    refine lv_iconst (v := 1) hx hb d_Mod_takeText_160 (by decide) ?_
    refine lv_iadd hx hb d_Mod_takeText_161 ?_
    refine w_puti (ty := .int) (k := 58) (t := 12) (C := R_Mod) (T := F_Mod) (N := 167) hx hb hT hown hK hW hS ko_0.1 ko_0.2 (by decide) in_Mod t_Mod t_Mod_ok n_Mod rfl rfl (by decide) rfl fr_Mod_58 w_8_234 (by decide +kernel) rfl rfl d_Mod_takeText_162 (fun H locs hW hS => ?_)
    obtain ⟨x1239, ex1239⟩ : ∃ y : St, y = setI x1238 0 58 ((fI x1238 0 58) + 1) := ⟨_, rfl⟩
    rw [← ex1239] at hW
    have hw := hw x1239 ex1239
    refine lv_aload_n hx hb d_Mod_takeText_165 rfl (lv_at hl 0 rfl) ?_
    refine w_getf (q := 34) (k := 53) (t := 12) (C := R_Mod) (T := F_Mod) (N := 167) hx hb hT hown hK hW ko_0.1 ko_0.2 (by decide) in_Mod rfl rfl (by decide) rfl fr_Mod_53 w_8_229 d_Mod_takeText_166 rfl ?_
    refine lv_aload_n hx hb d_Mod_takeText_169 rfl (lv_at hl 0 rfl) ?_
    refine w_geti (k := 58) (t := 12) (C := R_Mod) (T := F_Mod) (N := 167) hx hb hT hown hK hW ko_0.1 ko_0.2 (by decide) in_Mod rfl rfl (by decide) rfl fr_Mod_58 w_8_234 d_Mod_takeText_170 ?_
    refine lv_iload_n hx hb d_Mod_takeText_173 rfl (lv_at hl 3 rfl) ?_
    refine lv_iload_n hx hb d_Mod_takeText_174 rfl (lv_at hl 2 rfl) ?_
    refine lv_iadd hx hb d_Mod_takeText_175 ?_
    refine lv_iload_n hx hb d_Mod_takeText_176 rfl (lv_at hl 1 rfl) ?_
    refine lv_iadd hx hb d_Mod_takeText_177 ?_
    obtain ⟨hi, hw⟩ := hw
    refine w_iast (o := 34) hx hb hK hW hS ko_34.1 ko_34.2 hi d_Mod_takeText_178 (fun H locs hW hS => ?_)
    obtain ⟨x1240, ex1240⟩ : ∃ y : St, y = setA x1239 34 (fI x1239 0 58) ((l3 + l2) + l1) := ⟨_, rfl⟩
    rw [← ex1240] at hW
    have hw := hw x1240 ex1240
    exact hret x1240 H locs 179 ls d_Mod_takeText_179 hw hW hS
  · have hw := hw.2 c1237
    refine lv_aload_n hx hb d_Mod_takeText_116 rfl (lv_at hl 0 rfl) ?_
    refine w_getf (q := 37) (k := 56) (t := 12) (C := R_Mod) (T := F_Mod) (N := 167) hx hb hT hown hK hW ko_0.1 ko_0.2 (by decide) in_Mod rfl rfl (by decide) rfl fr_Mod_56 w_8_232 d_Mod_takeText_117 rfl ?_
    refine lv_iload_n hx hb d_Mod_takeText_120 rfl (lv_at hl 3 rfl) ?_
    refine lv_iload_n hx hb d_Mod_takeText_121 rfl (lv_at hl 2 rfl) ?_
    refine lv_iadd hx hb d_Mod_takeText_122 ?_
    refine lv_iload hx hb d_Mod_takeText_123 (lv_at hl 4 rfl) ?_
    refine lv_iadd hx hb d_Mod_takeText_125 ?_
    refine lv_aload_n hx hb d_Mod_takeText_126 rfl (lv_at hl 0 rfl) ?_
    refine w_getf (q := 41) (k := 62) (t := 12) (C := R_Mod) (T := F_Mod) (N := 167) hx hb hT hown hK hW ko_0.1 ko_0.2 (by decide) in_Mod rfl rfl (by decide) rfl fr_Mod_62 w_8_238 d_Mod_takeText_127 rfl ?_
    refine lv_aload_n hx hb d_Mod_takeText_130 rfl (lv_at hl 0 rfl) ?_
    refine w_geti (k := 67) (t := 12) (C := R_Mod) (T := F_Mod) (N := 167) hx hb hT hown hK hW ko_0.1 ko_0.2 (by decide) in_Mod rfl rfl (by decide) rfl fr_Mod_67 w_9_3 d_Mod_takeText_131 ?_
    refine lv_iload hx hb d_Mod_takeText_134 (lv_at hl 4 rfl) ?_
    refine lv_iadd hx hb d_Mod_takeText_136 ?_
    obtain ⟨hi, hw⟩ := hw
    refine w_iald (o := 41) hx hb hK hW ko_41.1 ko_41.2 hi d_Mod_takeText_137 ?_
    obtain ⟨hi, hw⟩ := hw
    refine w_iast (o := 37) hx hb hK hW hS ko_37.1 ko_37.2 hi d_Mod_takeText_138 (fun H locs hW hS => ?_)
    obtain ⟨x1241, ex1241⟩ : ∃ y : St, y = setA x 37 ((l3 + l2) + l4) (rA x 41 ((fI x 0 67) + l4)) := ⟨_, rfl⟩
    rw [← ex1241] at hW
    have hw := hw x1241 ex1241
    refine lv_iinc (v := (l4 + 1)) (lv' := [(4, .int (l4 + 1)), (0, .ref (ad 0)), (1, .int l1), (2, .int l2), (3, .int l3)]) hx hb d_Mod_takeText_139 hl (k := 4) rfl rfl (by decide) rfl (fun ls hl => ?_)
    refine lv_goto (tgt := 110) hx hb d_Mod_takeText_142 (by decide) ?_
    exact hrec110 l1 l2 l3 (l4 + 1) x1241 H locs ls  hw hW hS (lv_sub hl [1, 2, 3, 4, 0] rfl)
set_option maxHeartbeats 4000000 in
set_option maxRecDepth 100000 in
theorem tl_Mod_takeText_110 {p : Program} {l : Launch} {e : Env} {R : Room} {s : State} {m : MethodId} {args : Array Value} {below : List Frame} {meth : Method} {c : Code} {cells slots : Nat} {Q : State → Prop} {dC : Nat → ClassId} {dI : Nat → Nat → Nat} {cI cB cJ cZ : ClassId} {A : Nat → Prop} {ad : Nat → Nat} {post : St → Prop} (hx : p.tables.exec = Jvm.exec) (hb : c.code = b_Mod_takeText) (hml : c.maxLocals = 5) (hown : s.vm.findClass R_Mod = some m.cls) (hT : ∀ w ∈ TG, w.before args s = true) (hK : va_K (dC, dI) CL (TY cI cB cJ cZ) s) (hN : NW s) (hA : ∀ q : Nat, s.heap.size ≤ q → A q) (hRc : cells ≤ R.cells) (hRs : slots ≤ R.slots) (hRf : 0 ≤ R.frames) (hRl : 0 ≤ R.locals) (hret : ∀ (x : St) (H : Heap) (locs : List Loc) (pc : Nat) (ls : Array Slot), decode b_Mod_takeText pc = .ok (.return_, 1) → post x → Wd dC dI cI cB cJ cZ ad stM kcM 115 A x H → va_S A s.heap H locs → W p l e R s m args below meth c H locs cells slots Q (F0 m pc ls []))  : ∀ n : Nat, ∀ (l1 : Int32) (l2 : Int32) (l3 : Int32) (l4 : Int32) (x : St) (H : Heap) (locs : List Loc) (ls : Array Slot), wl_Mod_takeText_110 post n l1 l2 l3 l4 x → Wd dC dI cI cB cJ cZ ad stM kcM 115 A x H → va_S A s.heap H locs → lv_has ls 5 [(0, .ref (ad 0)), (1, .int l1), (2, .int l2), (3, .int l3), (4, .int l4)] → W p l e R s m args below meth c H locs cells slots Q (F0 m 110 ls []) := by
  intro n
  induction n with
  | zero => intro l1 l2 l3 l4 x H locs ls  hw; exact hw.elim
  | succ n ih => intro l1 l2 l3 l4 x H locs ls  hw hW hS hl; exact t_Mod_takeText_110 hx hb hml hown hT hK hN hA hRc hRs hRf hRl hret  ih l1 l2 l3 l4 x H locs ls  hw hW hS hl
set_option maxRecDepth 100000 in
set_option maxHeartbeats 4000000 in
set_option maxRecDepth 100000 in
theorem t_Mod_takeText_67 {p : Program} {l : Launch} {e : Env} {R : Room} {s : State} {m : MethodId} {args : Array Value} {below : List Frame} {meth : Method} {c : Code} {cells slots : Nat} {Q : State → Prop} {dC : Nat → ClassId} {dI : Nat → Nat → Nat} {cI cB cJ cZ : ClassId} {A : Nat → Prop} {ad : Nat → Nat} {post : St → Prop} {rec67 : Int32 → Int32 → Int32 → Int32 → St → Prop} (hx : p.tables.exec = Jvm.exec) (hb : c.code = b_Mod_takeText) (hml : c.maxLocals = 5) (hown : s.vm.findClass R_Mod = some m.cls) (hT : ∀ w ∈ TG, w.before args s = true) (hK : va_K (dC, dI) CL (TY cI cB cJ cZ) s) (hN : NW s) (hA : ∀ q : Nat, s.heap.size ≤ q → A q) (hRc : cells ≤ R.cells) (hRs : slots ≤ R.slots) (hRf : 0 ≤ R.frames) (hRl : 0 ≤ R.locals) (hret : ∀ (x : St) (H : Heap) (locs : List Loc) (pc : Nat) (ls : Array Slot), decode b_Mod_takeText pc = .ok (.return_, 1) → post x → Wd dC dI cI cB cJ cZ ad stM kcM 115 A x H → va_S A s.heap H locs → W p l e R s m args below meth c H locs cells slots Q (F0 m pc ls [])) (hrec67 : ∀ (l1 : Int32) (l2 : Int32) (l3 : Int32) (l4 : Int32) (x : St) (H : Heap) (locs : List Loc) (ls : Array Slot), rec67 l1 l2 l3 l4 x → Wd dC dI cI cB cJ cZ ad stM kcM 115 A x H → va_S A s.heap H locs → lv_has ls 5 [(0, .ref (ad 0)), (1, .int l1), (2, .int l2), (3, .int l3), (4, .int l4)] → W p l e R s m args below meth c H locs cells slots Q (F0 m 67 ls [])) : ∀ (l1 : Int32) (l2 : Int32) (l3 : Int32) (l4 : Int32) (x : St) (H : Heap) (locs : List Loc) (ls : Array Slot), j_Mod_takeText_67 post rec67 l1 l2 l3 l4 x → Wd dC dI cI cB cJ cZ ad stM kcM 115 A x H → va_S A s.heap H locs → lv_has ls 5 [(0, .ref (ad 0)), (1, .int l1), (2, .int l2), (3, .int l3), (4, .int l4)] → W p l e R s m args below meth c H locs cells slots Q (F0 m 67 ls []) := by
  intro l1 l2 l3 l4 x H locs ls  hw hW hS hl
  unfold j_Mod_takeText_67 at hw
  refine lv_iload hx hb d_Mod_takeText_67 (lv_at hl 4 rfl) ?_
  refine lv_iload_n hx hb d_Mod_takeText_69 rfl (lv_at hl 2 rfl) ?_
  refine lv_icmp_ge (tgt := 107) hx hb d_Mod_takeText_70 (by decide) (fun c1242 => ?_) (fun c1242 => ?_)
  · have hw := hw.1 c1242
    refine lv_iconst (v := 0) hx hb d_Mod_takeText_107 (by decide) ?_
    refine lv_istore (lv' := [(4, .int 0), (0, .ref (ad 0)), (1, .int l1), (2, .int l2), (3, .int l3)]) hx hb d_Mod_takeText_108 hl (by decide) rfl (fun ls hl => ?_)
    obtain ⟨n, hw⟩ := hw
    exact tl_Mod_takeText_110 hx hb hml hown hT hK hN hA hRc hRs hRf hRl hret  n l1 l2 l3 0 x H locs ls  hw hW hS (lv_sub hl [1, 2, 3, 4, 0] rfl)
  · have hw := hw.2 c1242
    refine lv_aload_n hx hb d_Mod_takeText_73 rfl (lv_at hl 0 rfl) ?_
    refine w_getf (q := 37) (k := 56) (t := 12) (C := R_Mod) (T := F_Mod) (N := 167) hx hb hT hown hK hW ko_0.1 ko_0.2 (by decide) in_Mod rfl rfl (by decide) rfl fr_Mod_56 w_8_232 d_Mod_takeText_74 rfl ?_
    refine lv_iload_n hx hb d_Mod_takeText_77 rfl (lv_at hl 3 rfl) ?_
    refine lv_iload hx hb d_Mod_takeText_78 (lv_at hl 4 rfl) ?_
    refine lv_iadd hx hb d_Mod_takeText_80 ?_
    refine lv_aload_n hx hb d_Mod_takeText_81 rfl (lv_at hl 0 rfl) ?_
    refine w_getf (q := 37) (k := 56) (t := 12) (C := R_Mod) (T := F_Mod) (N := 167) hx hb hT hown hK hW ko_0.1 ko_0.2 (by decide) in_Mod rfl rfl (by decide) rfl fr_Mod_56 w_8_232 d_Mod_takeText_82 rfl ?_
    refine lv_aload_n hx hb d_Mod_takeText_85 rfl (lv_at hl 0 rfl) ?_
    refine w_getf (q := 34) (k := 53) (t := 12) (C := R_Mod) (T := F_Mod) (N := 167) hx hb hT hown hK hW ko_0.1 ko_0.2 (by decide) in_Mod rfl rfl (by decide) rfl fr_Mod_53 w_8_229 d_Mod_takeText_86 rfl ?_
    refine lv_aload_n hx hb d_Mod_takeText_89 rfl (lv_at hl 0 rfl) ?_
    refine w_geti (k := 58) (t := 12) (C := R_Mod) (T := F_Mod) (N := 167) hx hb hT hown hK hW ko_0.1 ko_0.2 (by decide) in_Mod rfl rfl (by decide) rfl fr_Mod_58 w_8_234 d_Mod_takeText_90 ?_
    refine lv_iconst (v := 1) hx hb d_Mod_takeText_93 (by decide) ?_
    refine lv_isub hx hb d_Mod_takeText_94 ?_
    obtain ⟨hi, hw⟩ := hw
    refine w_iald (o := 34) hx hb hK hW ko_34.1 ko_34.2 hi d_Mod_takeText_95 ?_
    refine lv_iload hx hb d_Mod_takeText_96 (lv_at hl 4 rfl) ?_
    refine lv_iadd hx hb d_Mod_takeText_98 ?_
    obtain ⟨hi, hw⟩ := hw
    refine w_iald (o := 37) hx hb hK hW ko_37.1 ko_37.2 hi d_Mod_takeText_99 ?_
    obtain ⟨hi, hw⟩ := hw
    refine w_iast (o := 37) hx hb hK hW hS ko_37.1 ko_37.2 hi d_Mod_takeText_100 (fun H locs hW hS => ?_)
    obtain ⟨x1243, ex1243⟩ : ∃ y : St, y = setA x 37 (l3 + l4) (rA x 37 ((rA x 34 ((fI x 0 58) - 1)) + l4)) := ⟨_, rfl⟩
    rw [← ex1243] at hW
    have hw := hw x1243 ex1243
    refine lv_iinc (v := (l4 + 1)) (lv' := [(4, .int (l4 + 1)), (0, .ref (ad 0)), (1, .int l1), (2, .int l2), (3, .int l3)]) hx hb d_Mod_takeText_101 hl (k := 4) rfl rfl (by decide) rfl (fun ls hl => ?_)
    refine lv_goto (tgt := 67) hx hb d_Mod_takeText_104 (by decide) ?_
    exact hrec67 l1 l2 l3 (l4 + 1) x1243 H locs ls  hw hW hS (lv_sub hl [1, 2, 3, 4, 0] rfl)
set_option maxHeartbeats 4000000 in
set_option maxRecDepth 100000 in
theorem tl_Mod_takeText_67 {p : Program} {l : Launch} {e : Env} {R : Room} {s : State} {m : MethodId} {args : Array Value} {below : List Frame} {meth : Method} {c : Code} {cells slots : Nat} {Q : State → Prop} {dC : Nat → ClassId} {dI : Nat → Nat → Nat} {cI cB cJ cZ : ClassId} {A : Nat → Prop} {ad : Nat → Nat} {post : St → Prop} (hx : p.tables.exec = Jvm.exec) (hb : c.code = b_Mod_takeText) (hml : c.maxLocals = 5) (hown : s.vm.findClass R_Mod = some m.cls) (hT : ∀ w ∈ TG, w.before args s = true) (hK : va_K (dC, dI) CL (TY cI cB cJ cZ) s) (hN : NW s) (hA : ∀ q : Nat, s.heap.size ≤ q → A q) (hRc : cells ≤ R.cells) (hRs : slots ≤ R.slots) (hRf : 0 ≤ R.frames) (hRl : 0 ≤ R.locals) (hret : ∀ (x : St) (H : Heap) (locs : List Loc) (pc : Nat) (ls : Array Slot), decode b_Mod_takeText pc = .ok (.return_, 1) → post x → Wd dC dI cI cB cJ cZ ad stM kcM 115 A x H → va_S A s.heap H locs → W p l e R s m args below meth c H locs cells slots Q (F0 m pc ls []))  : ∀ n : Nat, ∀ (l1 : Int32) (l2 : Int32) (l3 : Int32) (l4 : Int32) (x : St) (H : Heap) (locs : List Loc) (ls : Array Slot), wl_Mod_takeText_67 post n l1 l2 l3 l4 x → Wd dC dI cI cB cJ cZ ad stM kcM 115 A x H → va_S A s.heap H locs → lv_has ls 5 [(0, .ref (ad 0)), (1, .int l1), (2, .int l2), (3, .int l3), (4, .int l4)] → W p l e R s m args below meth c H locs cells slots Q (F0 m 67 ls []) := by
  intro n
  induction n with
  | zero => intro l1 l2 l3 l4 x H locs ls  hw; exact hw.elim
  | succ n ih => intro l1 l2 l3 l4 x H locs ls  hw hW hS hl; exact t_Mod_takeText_67 hx hb hml hown hT hK hN hA hRc hRs hRf hRl hret  ih l1 l2 l3 l4 x H locs ls  hw hW hS hl
set_option maxRecDepth 100000 in
set_option maxHeartbeats 4000000 in
set_option maxRecDepth 100000 in
theorem t_Mod_takeText_46 {p : Program} {l : Launch} {e : Env} {R : Room} {s : State} {m : MethodId} {args : Array Value} {below : List Frame} {meth : Method} {c : Code} {cells slots : Nat} {Q : State → Prop} {dC : Nat → ClassId} {dI : Nat → Nat → Nat} {cI cB cJ cZ : ClassId} {A : Nat → Prop} {ad : Nat → Nat} {post : St → Prop} (hx : p.tables.exec = Jvm.exec) (hb : c.code = b_Mod_takeText) (hml : c.maxLocals = 5) (hown : s.vm.findClass R_Mod = some m.cls) (hT : ∀ w ∈ TG, w.before args s = true) (hK : va_K (dC, dI) CL (TY cI cB cJ cZ) s) (hN : NW s) (hA : ∀ q : Nat, s.heap.size ≤ q → A q) (hRc : cells ≤ R.cells) (hRs : slots ≤ R.slots) (hRf : 0 ≤ R.frames) (hRl : 0 ≤ R.locals) (hret : ∀ (x : St) (H : Heap) (locs : List Loc) (pc : Nat) (ls : Array Slot), decode b_Mod_takeText pc = .ok (.return_, 1) → post x → Wd dC dI cI cB cJ cZ ad stM kcM 115 A x H → va_S A s.heap H locs → W p l e R s m args below meth c H locs cells slots Q (F0 m pc ls []))  : ∀ (l1 : Int32) (l2 : Int32) (x : St) (H : Heap) (locs : List Loc) (ls : Array Slot), j_Mod_takeText_46 post l1 l2 x → Wd dC dI cI cB cJ cZ ad stM kcM 115 A x H → va_S A s.heap H locs → lv_has ls 5 [(0, .ref (ad 0)), (1, .int l1), (2, .int l2)] → W p l e R s m args below meth c H locs cells slots Q (F0 m 46 ls []) := by
  intro l1 l2 x H locs ls  hw hW hS hl
  unfold j_Mod_takeText_46 at hw
  refine lv_aload_n hx hb d_Mod_takeText_46 rfl (lv_at hl 0 rfl) ?_
  refine w_geti (k := 69) (t := 12) (C := R_Mod) (T := F_Mod) (N := 167) hx hb hT hown hK hW ko_0.1 ko_0.2 (by decide) in_Mod rfl rfl (by decide) rfl fr_Mod_69 w_9_5 d_Mod_takeText_47 ?_
  refine lv_if_eq (tgt := 54) hx hb d_Mod_takeText_50 (by decide) (fun c1244 => ?_) (fun c1244 => ?_)
  · have hw := hw.1 c1244
    refine lv_aload_n hx hb d_Mod_takeText_54 rfl (lv_at hl 0 rfl) ?_
    refine w_getf (q := 34) (k := 53) (t := 12) (C := R_Mod) (T := F_Mod) (N := 167) hx hb hT hown hK hW ko_0.1 ko_0.2 (by decide) in_Mod rfl rfl (by decide) rfl fr_Mod_53 w_8_229 d_Mod_takeText_55 rfl ?_
    refine lv_aload_n hx hb d_Mod_takeText_58 rfl (lv_at hl 0 rfl) ?_
    refine w_geti (k := 58) (t := 12) (C := R_Mod) (T := F_Mod) (N := 167) hx hb hT hown hK hW ko_0.1 ko_0.2 (by decide) in_Mod rfl rfl (by decide) rfl fr_Mod_58 w_8_234 d_Mod_takeText_59 ?_
    obtain ⟨hi, hw⟩ := hw
    refine w_iald (o := 34) hx hb hK hW ko_34.1 ko_34.2 hi d_Mod_takeText_62 ?_
    refine lv_topi (fun v1245 ev1245 => ?_)
    have hw := hw v1245 ev1245
    refine lv_istore_n (lv' := [(3, .int v1245), (0, .ref (ad 0)), (1, .int l1), (2, .int l2)]) hx hb d_Mod_takeText_63 rfl hl (by decide) rfl (fun ls hl => ?_)
    refine lv_iconst (v := 0) hx hb d_Mod_takeText_64 (by decide) ?_
    refine lv_istore (lv' := [(4, .int 0), (3, .int v1245), (0, .ref (ad 0)), (1, .int l1), (2, .int l2)]) hx hb d_Mod_takeText_65 hl (by decide) rfl (fun ls hl => ?_)
    obtain ⟨n, hw⟩ := hw
    exact tl_Mod_takeText_67 hx hb hml hown hT hK hN hA hRc hRs hRf hRl hret  n l1 l2 v1245 0 x H locs ls  hw hW hS (lv_sub hl [2, 3, 4, 1, 0] rfl)
  · have hw := hw.2 c1244
    exact hret x H locs 53 ls d_Mod_takeText_53 hw hW hS
set_option maxRecDepth 100000 in
set_option maxHeartbeats 4000000 in
set_option maxRecDepth 100000 in
theorem t_Mod_takeText_e {p : Program} {l : Launch} {e : Env} {R : Room} {s : State} {m : MethodId} {args : Array Value} {below : List Frame} {meth : Method} {c : Code} {cells slots : Nat} {Q : State → Prop} {dC : Nat → ClassId} {dI : Nat → Nat → Nat} {cI cB cJ cZ : ClassId} {A : Nat → Prop} {ad : Nat → Nat} {post : St → Prop} (hx : p.tables.exec = Jvm.exec) (hb : c.code = b_Mod_takeText) (hml : c.maxLocals = 5) (hown : s.vm.findClass R_Mod = some m.cls) (hT : ∀ w ∈ TG, w.before args s = true) (hK : va_K (dC, dI) CL (TY cI cB cJ cZ) s) (hN : NW s) (hA : ∀ q : Nat, s.heap.size ≤ q → A q) (hRc : cells ≤ R.cells) (hRs : slots ≤ R.slots) (hRf : 0 ≤ R.frames) (hRl : 0 ≤ R.locals) (hret : ∀ (x : St) (H : Heap) (locs : List Loc) (pc : Nat) (ls : Array Slot), decode b_Mod_takeText pc = .ok (.return_, 1) → post x → Wd dC dI cI cB cJ cZ ad stM kcM 115 A x H → va_S A s.heap H locs → W p l e R s m args below meth c H locs cells slots Q (F0 m pc ls [])) : ∀ (l1 : Int32) (l2 : Int32) (x : St) (H : Heap) (locs : List Loc) (ls : Array Slot), wp_Mod_takeText post l1 l2 x → Wd dC dI cI cB cJ cZ ad stM kcM 115 A x H → va_S A s.heap H locs → lv_has ls 5 [(0, .ref (ad 0)), (1, .int l1), (2, .int l2)] → W p l e R s m args below meth c H locs cells slots Q (F0 m 0 ls []) := by
  intro l1 l2 x H locs ls  hw hW hS hl
  unfold wp_Mod_takeText at hw
  refine lv_aload_n hx hb d_Mod_takeText_0 rfl (lv_at hl 0 rfl) ?_
  refine w_geti (k := 68) (t := 12) (C := R_Mod) (T := F_Mod) (N := 167) hx hb hT hown hK hW ko_0.1 ko_0.2 (by decide) in_Mod rfl rfl (by decide) rfl fr_Mod_68 w_9_4 d_Mod_takeText_1 ?_
  refine lv_aload_n hx hb d_Mod_takeText_4 rfl (lv_at hl 0 rfl) ?_
  refine w_geti (k := 67) (t := 12) (C := R_Mod) (T := F_Mod) (N := 167) hx hb hT hown hK hW ko_0.1 ko_0.2 (by decide) in_Mod rfl rfl (by decide) rfl fr_Mod_67 w_9_3 d_Mod_takeText_5 ?_
  refine lv_isub hx hb d_Mod_takeText_8 ?_
  refine lv_iload_n hx hb d_Mod_takeText_9 rfl (lv_at hl 1 rfl) ?_
  refine lv_icmp_ge (tgt := 21) hx hb d_Mod_takeText_10 (by decide) (fun c1246 => ?_) (fun c1246 => ?_)
  · have hw := hw.1 c1246
    refine lv_aload_n hx hb d_Mod_takeText_21 rfl (lv_at hl 0 rfl) ?_
    refine w_getf (q := 34) (k := 53) (t := 12) (C := R_Mod) (T := F_Mod) (N := 167) hx hb hT hown hK hW ko_0.1 ko_0.2 (by decide) in_Mod rfl rfl (by decide) rfl fr_Mod_53 w_8_229 d_Mod_takeText_22 rfl ?_
    refine lv_aload_n hx hb d_Mod_takeText_25 rfl (lv_at hl 0 rfl) ?_
    refine w_geti (k := 58) (t := 12) (C := R_Mod) (T := F_Mod) (N := 167) hx hb hT hown hK hW ko_0.1 ko_0.2 (by decide) in_Mod rfl rfl (by decide) rfl fr_Mod_58 w_8_234 d_Mod_takeText_26 ?_
    obtain ⟨hi, hw⟩ := hw
    refine w_iald (o := 34) hx hb hK hW ko_34.1 ko_34.2 hi d_Mod_takeText_29 ?_
    refine lv_iload_n hx hb d_Mod_takeText_30 rfl (lv_at hl 2 rfl) ?_
    refine lv_iadd hx hb d_Mod_takeText_31 ?_
    refine lv_iload_n hx hb d_Mod_takeText_32 rfl (lv_at hl 1 rfl) ?_
    refine lv_iadd hx hb d_Mod_takeText_33 ?_
    refine lv_sipush (v := 20000) hx hb d_Mod_takeText_34 (by decide) ?_
    refine lv_icmp_le (tgt := 46) hx hb d_Mod_takeText_37 (by decide) (fun c1247 => ?_) (fun c1247 => ?_)
    · have hw := hw.1 c1247
      exact t_Mod_takeText_46 hx hb hml hown hT hK hN hA hRc hRs hRf hRl hret  l1 l2 x H locs ls  hw hW hS (lv_sub hl [0, 1, 2] rfl)
    · have hw := hw.2 c1247
      refine lv_aload_n hx hb d_Mod_takeText_40 rfl (lv_at hl 0 rfl) ?_
      refine lv_bipush (v := 7) hx hb d_Mod_takeText_41 (by decide) ?_
      refine w_puti (ty := .int) (k := 69) (t := 12) (C := R_Mod) (T := F_Mod) (N := 167) hx hb hT hown hK hW hS ko_0.1 ko_0.2 (by decide) in_Mod t_Mod t_Mod_ok n_Mod rfl rfl (by decide) rfl fr_Mod_69 w_9_5 (by decide +kernel) rfl rfl d_Mod_takeText_43 (fun H locs hW hS => ?_)
      obtain ⟨x1248, ex1248⟩ : ∃ y : St, y = setI x 0 69 7 := ⟨_, rfl⟩
      rw [← ex1248] at hW
      have hw := hw x1248 ex1248
      exact t_Mod_takeText_46 hx hb hml hown hT hK hN hA hRc hRs hRf hRl hret  l1 l2 x1248 H locs ls  hw hW hS (lv_sub hl [0, 1, 2] rfl)
  · have hw := hw.2 c1246
    refine lv_aload_n hx hb d_Mod_takeText_13 rfl (lv_at hl 0 rfl) ?_
    refine lv_iconst (v := 1) hx hb d_Mod_takeText_14 (by decide) ?_
    refine w_puti (ty := .int) (k := 69) (t := 12) (C := R_Mod) (T := F_Mod) (N := 167) hx hb hT hown hK hW hS ko_0.1 ko_0.2 (by decide) in_Mod t_Mod t_Mod_ok n_Mod rfl rfl (by decide) rfl fr_Mod_69 w_9_5 (by decide +kernel) rfl rfl d_Mod_takeText_15 (fun H locs hW hS => ?_)
    obtain ⟨x1249, ex1249⟩ : ∃ y : St, y = setI x 0 69 1 := ⟨_, rfl⟩
    rw [← ex1249] at hW
    have hw := hw x1249 ex1249
    refine lv_goto (tgt := 46) hx hb d_Mod_takeText_18 (by decide) ?_
    exact t_Mod_takeText_46 hx hb hml hown hT hK hN hA hRc hRs hRf hRl hret  l1 l2 x1249 H locs ls  hw hW hS (lv_sub hl [0, 1, 2] rfl)
set_option maxHeartbeats 4000000 in
set_option maxRecDepth 100000 in
theorem k_Mod_takeText (l : Launch) (dC : Nat → ClassId) (dI : Nat → Nat → Nat) (cI cB cJ cZ : ClassId) (ad : Nat → Nat) (sz : Nat) (l1 : Int32) (l2 : Int32) (x : St) {post : St → Prop} (hw : wp_Mod_takeText post l1 l2 x) : Met l y_Mod_takeText (wsOf y_Mod_takeText b_Mod_takeText 5 (none)) ({ frames := 0, cells := 0, slots := 0, locals := 0 }) (va_Pc [.ref (ad 0), .int l1, .int l2] (PW dC dI cI cB cJ cZ ad stM kcM 115 sz x)) (va_Qv (fun (y : St) => post y) (fun y t => Wd dC dI cI cB cJ cZ ad stM kcM 115 (va_A (pic ad stM kcM 115 cI cB cJ cZ x) sz) y t.heap) (va_A (pic ad stM kcM 115 cI cB cJ cZ x) sz)) 0 0 (va_A (pic ad stM kcM 115 cI cB cJ cZ x) sz) := by
  refine Met.ofW (cc := b_Mod_takeText) (maxL := 5) (ret := none) (by decide) rfl ?_
  intro p e s m args below meth c s₁ B hml hv
  obtain ⟨rfl, hsz, hW0, hK, hN⟩ := hv
  have hx := B.exec
  have hb := B.bytes
  have hr := B.returns
  have hts := atoms_spec B.pre
  have hT : ∀ w ∈ TG, w.before _ s = true := fun w h => hts w (List.mem_cons_of_mem _ h)
  have hown : s.vm.findClass R_Mod = some m.cls := findClass_of_methodNamed B.named
  have hlocks := B.notSynchronized
  subst hsz
  have hW : Wd dC dI cI cB cJ cZ ad stM kcM 115 (va_A (pic ad stM kcM 115 cI cB cJ cZ x) s.heap.size) x s.heap := ⟨hW0.1, hW0.2.1.self (sz := s.heap.size), hW0.2.2⟩
  generalize hAe : va_A (pic ad stM kcM 115 cI cB cJ cZ x) s.heap.size = A at hW ⊢
  have hA : ∀ q : Nat, s.heap.size ≤ q → A q := fun q h => by rw [← hAe]; exact Or.inr h
  have hS : va_S A s.heap s.heap [] := va_S.rf
  have hl := lv_entry ([.ref (ad 0), .int l1, .int l2]) (n := 5) (Nat.le_of_ble_eq_true rfl)
  rw [lg_entry_eq]
  generalize (lg_sl ([.ref (ad 0), .int l1, .int l2]) ++ List.replicate (5 - (lg_sl ([.ref (ad 0), .int l1, .int l2])).length) Slot.unset).toArray = ls at hl ⊢
  have hl : lv_has ls 5 [(0, .ref (ad 0)), (1, .int l1), (2, .int l2)] := hl
  exact t_Mod_takeText_e hx hb hml hown hT hK hN hA (Nat.le_refl 0) (Nat.le_refl 0) (Nat.le_refl 0) (Nat.le_refl 0) (fun x H locs pc ls hd hp hW hS => W.vret hx hb hr (fun t ht hM => ⟨⟨x, rfl, hp, Wd.back hW ht.symm (fun _ z => z)⟩, hS.F ht⟩) hS.2.2 hd hlocks)  l1 l2 x _ _ ls  hw hW hS hl
set_option maxRecDepth 100000 in
set_option maxHeartbeats 4000000 in
set_option maxRecDepth 100000 in
theorem t_Mod_readPlain_64 {p : Program} {l : Launch} {e : Env} {R : Room} {s : State} {m : MethodId} {args : Array Value} {below : List Frame} {meth : Method} {c : Code} {cells slots : Nat} {Q : State → Prop} {dC : Nat → ClassId} {dI : Nat → Nat → Nat} {cI cB cJ cZ : ClassId} {A : Nat → Prop} {ad : Nat → Nat} {post : St → Prop} {rec2 : Int32 → Int32 → St → Prop} (hx : p.tables.exec = Jvm.exec) (hb : c.code = b_Mod_readPlain) (hml : c.maxLocals = 5) (hown : s.vm.findClass R_Mod = some m.cls) (hT : ∀ w ∈ TG, w.before args s = true) (hK : va_K (dC, dI) CL (TY cI cB cJ cZ) s) (hN : NW s) (hA : ∀ q : Nat, s.heap.size ≤ q → A q) (hRc : cells ≤ R.cells) (hRs : slots ≤ R.slots) (hRf : 1 ≤ R.frames) (hRl : 25 ≤ R.locals) (hret : ∀ (x : St) (H : Heap) (locs : List Loc) (pc : Nat) (ls : Array Slot), decode b_Mod_readPlain pc = .ok (.return_, 1) → post x → Wd dC dI cI cB cJ cZ ad stM kcM 115 A x H → va_S A s.heap H locs → W p l e R s m args below meth c H locs cells slots Q (F0 m pc ls [])) (hrec2 : ∀ (l1 : Int32) (l2 : Int32) (x : St) (H : Heap) (locs : List Loc) (ls : Array Slot), rec2 l1 l2 x → Wd dC dI cI cB cJ cZ ad stM kcM 115 A x H → va_S A s.heap H locs → lv_has ls 5 [(0, .ref (ad 0)), (1, .int l1), (2, .int l2)] → W p l e R s m args below meth c H locs cells slots Q (F0 m 2 ls [])) : ∀ (l1 : Int32) (l2 : Int32) (l3 : Int64) (x : St) (H : Heap) (locs : List Loc) (ls : Array Slot), j_Mod_readPlain_64 post rec2 l1 l2 l3 x → Wd dC dI cI cB cJ cZ ad stM kcM 115 A x H → va_S A s.heap H locs → lv_has ls 5 [(0, .ref (ad 0)), (1, .int l1), (2, .int l2), (3, .long l3)] → W p l e R s m args below meth c H locs cells slots Q (F0 m 64 ls []) := by
  intro l1 l2 l3 x H locs ls  hw hW hS hl
  unfold j_Mod_readPlain_64 at hw
  refine lv_iinc (v := (l2 + 1)) (lv' := [(2, .int (l2 + 1)), (0, .ref (ad 0)), (1, .int l1), (3, .long l3)]) hx hb d_Mod_readPlain_64 hl (k := 2) rfl rfl (by decide) rfl (fun ls hl => ?_)
  refine lv_goto (tgt := 2) hx hb d_Mod_readPlain_67 (by decide) ?_
  exact hrec2 l1 (l2 + 1) x H locs ls  hw hW hS (lv_sub hl [1, 2, 0] rfl)
set_option maxRecDepth 100000 in
set_option maxHeartbeats 4000000 in
set_option maxRecDepth 100000 in
theorem t_Mod_readPlain_50 {p : Program} {l : Launch} {e : Env} {R : Room} {s : State} {m : MethodId} {args : Array Value} {below : List Frame} {meth : Method} {c : Code} {cells slots : Nat} {Q : State → Prop} {dC : Nat → ClassId} {dI : Nat → Nat → Nat} {cI cB cJ cZ : ClassId} {A : Nat → Prop} {ad : Nat → Nat} {post : St → Prop} {rec2 : Int32 → Int32 → St → Prop} (hx : p.tables.exec = Jvm.exec) (hb : c.code = b_Mod_readPlain) (hml : c.maxLocals = 5) (hown : s.vm.findClass R_Mod = some m.cls) (hT : ∀ w ∈ TG, w.before args s = true) (hK : va_K (dC, dI) CL (TY cI cB cJ cZ) s) (hN : NW s) (hA : ∀ q : Nat, s.heap.size ≤ q → A q) (hRc : cells ≤ R.cells) (hRs : slots ≤ R.slots) (hRf : 1 ≤ R.frames) (hRl : 25 ≤ R.locals) (hret : ∀ (x : St) (H : Heap) (locs : List Loc) (pc : Nat) (ls : Array Slot), decode b_Mod_readPlain pc = .ok (.return_, 1) → post x → Wd dC dI cI cB cJ cZ ad stM kcM 115 A x H → va_S A s.heap H locs → W p l e R s m args below meth c H locs cells slots Q (F0 m pc ls [])) (hrec2 : ∀ (l1 : Int32) (l2 : Int32) (x : St) (H : Heap) (locs : List Loc) (ls : Array Slot), rec2 l1 l2 x → Wd dC dI cI cB cJ cZ ad stM kcM 115 A x H → va_S A s.heap H locs → lv_has ls 5 [(0, .ref (ad 0)), (1, .int l1), (2, .int l2)] → W p l e R s m args below meth c H locs cells slots Q (F0 m 2 ls [])) : ∀ (l1 : Int32) (l2 : Int32) (l3 : Int64) (x : St) (H : Heap) (locs : List Loc) (ls : Array Slot), j_Mod_readPlain_50 post rec2 l1 l2 l3 x → Wd dC dI cI cB cJ cZ ad stM kcM 115 A x H → va_S A s.heap H locs → lv_has ls 5 [(0, .ref (ad 0)), (1, .int l1), (2, .int l2), (3, .long l3)] → W p l e R s m args below meth c H locs cells slots Q (F0 m 50 ls []) := by
  intro l1 l2 l3 x H locs ls  hw hW hS hl
  unfold j_Mod_readPlain_50 at hw
  refine lv_aload_n hx hb d_Mod_readPlain_50 rfl (lv_at hl 0 rfl) ?_
  refine w_geti (k := 69) (t := 12) (C := R_Mod) (T := F_Mod) (N := 167) hx hb hT hown hK hW ko_0.1 ko_0.2 (by decide) in_Mod rfl rfl (by decide) rfl fr_Mod_69 w_9_5 d_Mod_readPlain_51 ?_
  refine lv_if_ne (tgt := 64) hx hb d_Mod_readPlain_54 (by decide) (fun c1250 => ?_) (fun c1250 => ?_)
  · have hw := hw.1 c1250
    exact t_Mod_readPlain_64 hx hb hml hown hT hK hN hA hRc hRs hRf hRl hret hrec2 l1 l2 l3 x H locs ls  hw hW hS (lv_sub hl [0, 1, 2, 3] rfl)
  · have hw := hw.2 c1250
    refine lv_aload_n hx hb d_Mod_readPlain_57 rfl (lv_at hl 0 rfl) ?_
    refine lv_lload_n hx hb d_Mod_readPlain_58 rfl (lv_at hl 3 rfl) ?_
    refine lv_l2i hx hb d_Mod_readPlain_59 rfl ?_
    refine lv_iconst (v := 0) hx hb d_Mod_readPlain_60 (by decide) ?_
    have hF := hW.free hS hA
    refine va_callv (va_runV (C := R_Mod) (As := [.int (l3 : Int64).toInt32, .int 0]) (rest := []) ⟨hx, hb, hml, hown, hT⟩ (k_Mod_takeText l dC dI cI cB cJ cZ ad H.size (l3 : Int64).toInt32 0 x  hw) ⟨callB_of 2 hT (gwt_in w_12_210) rfl rfl rfl (hT _ w_1_15) (hT _ w_12_207) (by decide +kernel) ⟨Nat.le_trans (Nat.le_of_ble_eq_true rfl) hRf, Nat.le_trans (Nat.le_of_ble_eq_true rfl) hRl⟩, hT _ w_12_209, hT _ ws_206⟩ ⟨PW.blind, va_recv hK hW.1 (ci := 12) (q0 := 0) rfl (pic_obj ko_0.1 ko_0.2 (by decide)), PW.at _ hW hK hN⟩ rfl rfl hl.1 rfl (lv_room (Nat.le_of_ble_eq_true rfl)) d_Mod_readPlain_61 ⟨hRc, hRs⟩) hS (fun q _ h => hF q h) hF (fun  x1251 t H locs ht hvm hw hB hz1 hk1 hS => ?_)
    have hW := Wd.back hB ht hF
    clear hB ht hF hz1 hk1 hvm
    exact t_Mod_readPlain_64 hx hb hml hown hT hK hN hA hRc hRs hRf hRl hret hrec2 l1 l2 l3 x1251 H locs ls  hw hW hS (lv_sub hl [0, 1, 2, 3] rfl)
set_option maxRecDepth 100000 in
set_option maxHeartbeats 4000000 in
set_option maxRecDepth 100000 in
theorem t_Mod_readPlain_44 {p : Program} {l : Launch} {e : Env} {R : Room} {s : State} {m : MethodId} {args : Array Value} {below : List Frame} {meth : Method} {c : Code} {cells slots : Nat} {Q : State → Prop} {dC : Nat → ClassId} {dI : Nat → Nat → Nat} {cI cB cJ cZ : ClassId} {A : Nat → Prop} {ad : Nat → Nat} {post : St → Prop} {rec2 : Int32 → Int32 → St → Prop} (hx : p.tables.exec = Jvm.exec) (hb : c.code = b_Mod_readPlain) (hml : c.maxLocals = 5) (hown : s.vm.findClass R_Mod = some m.cls) (hT : ∀ w ∈ TG, w.before args s = true) (hK : va_K (dC, dI) CL (TY cI cB cJ cZ) s) (hN : NW s) (hA : ∀ q : Nat, s.heap.size ≤ q → A q) (hRc : cells ≤ R.cells) (hRs : slots ≤ R.slots) (hRf : 1 ≤ R.frames) (hRl : 25 ≤ R.locals) (hret : ∀ (x : St) (H : Heap) (locs : List Loc) (pc : Nat) (ls : Array Slot), decode b_Mod_readPlain pc = .ok (.return_, 1) → post x → Wd dC dI cI cB cJ cZ ad stM kcM 115 A x H → va_S A s.heap H locs → W p l e R s m args below meth c H locs cells slots Q (F0 m pc ls [])) (hrec2 : ∀ (l1 : Int32) (l2 : Int32) (x : St) (H : Heap) (locs : List Loc) (ls : Array Slot), rec2 l1 l2 x → Wd dC dI cI cB cJ cZ ad stM kcM 115 A x H → va_S A s.heap H locs → lv_has ls 5 [(0, .ref (ad 0)), (1, .int l1), (2, .int l2)] → W p l e R s m args below meth c H locs cells slots Q (F0 m 2 ls [])) : ∀ (l1 : Int32) (l2 : Int32) (l3 : Int64) (x : St) (H : Heap) (locs : List Loc) (ls : Array Slot), j_Mod_readPlain_44 post rec2 l1 l2 l3 x → Wd dC dI cI cB cJ cZ ad stM kcM 115 A x H → va_S A s.heap H locs → lv_has ls 5 [(0, .ref (ad 0)), (1, .int l1), (2, .int l2), (3, .long l3)] → W p l e R s m args below meth c H locs cells slots Q (F0 m 44 ls []) := by
  intro l1 l2 l3 x H locs ls  hw hW hS hl
  unfold j_Mod_readPlain_44 at hw
  refine lv_aload_n hx hb d_Mod_readPlain_44 rfl (lv_at hl 0 rfl) ?_
  refine lv_bipush (v := 7) hx hb d_Mod_readPlain_45 (by decide) ?_
  refine w_puti (ty := .int) (k := 69) (t := 12) (C := R_Mod) (T := F_Mod) (N := 167) hx hb hT hown hK hW hS ko_0.1 ko_0.2 (by decide) in_Mod t_Mod t_Mod_ok n_Mod rfl rfl (by decide) rfl fr_Mod_69 w_9_5 (by decide +kernel) rfl rfl d_Mod_readPlain_47 (fun H locs hW hS => ?_)
  obtain ⟨x1252, ex1252⟩ : ∃ y : St, y = setI x 0 69 7 := ⟨_, rfl⟩
  rw [← ex1252] at hW
  have hw := hw x1252 ex1252
  exact t_Mod_readPlain_50 hx hb hml hown hT hK hN hA hRc hRs hRf hRl hret hrec2 l1 l2 l3 x1252 H locs ls  hw hW hS (lv_sub hl [0, 1, 2, 3] rfl)
set_option maxRecDepth 100000 in
set_option maxHeartbeats 4000000 in
set_option maxRecDepth 100000 in
theorem t_Mod_readPlain_2 {p : Program} {l : Launch} {e : Env} {R : Room} {s : State} {m : MethodId} {args : Array Value} {below : List Frame} {meth : Method} {c : Code} {cells slots : Nat} {Q : State → Prop} {dC : Nat → ClassId} {dI : Nat → Nat → Nat} {cI cB cJ cZ : ClassId} {A : Nat → Prop} {ad : Nat → Nat} {post : St → Prop} {rec2 : Int32 → Int32 → St → Prop} (hx : p.tables.exec = Jvm.exec) (hb : c.code = b_Mod_readPlain) (hml : c.maxLocals = 5) (hown : s.vm.findClass R_Mod = some m.cls) (hT : ∀ w ∈ TG, w.before args s = true) (hK : va_K (dC, dI) CL (TY cI cB cJ cZ) s) (hN : NW s) (hA : ∀ q : Nat, s.heap.size ≤ q → A q) (hRc : cells ≤ R.cells) (hRs : slots ≤ R.slots) (hRf : 1 ≤ R.frames) (hRl : 25 ≤ R.locals) (hret : ∀ (x : St) (H : Heap) (locs : List Loc) (pc : Nat) (ls : Array Slot), decode b_Mod_readPlain pc = .ok (.return_, 1) → post x → Wd dC dI cI cB cJ cZ ad stM kcM 115 A x H → va_S A s.heap H locs → W p l e R s m args below meth c H locs cells slots Q (F0 m pc ls [])) (hrec2 : ∀ (l1 : Int32) (l2 : Int32) (x : St) (H : Heap) (locs : List Loc) (ls : Array Slot), rec2 l1 l2 x → Wd dC dI cI cB cJ cZ ad stM kcM 115 A x H → va_S A s.heap H locs → lv_has ls 5 [(0, .ref (ad 0)), (1, .int l1), (2, .int l2)] → W p l e R s m args below meth c H locs cells slots Q (F0 m 2 ls [])) : ∀ (l1 : Int32) (l2 : Int32) (x : St) (H : Heap) (locs : List Loc) (ls : Array Slot), j_Mod_readPlain_2 post rec2 l1 l2 x → Wd dC dI cI cB cJ cZ ad stM kcM 115 A x H → va_S A s.heap H locs → lv_has ls 5 [(0, .ref (ad 0)), (1, .int l1), (2, .int l2)] → W p l e R s m args below meth c H locs cells slots Q (F0 m 2 ls []) := by
  intro l1 l2 x H locs ls  hw hW hS hl
  unfold j_Mod_readPlain_2 at hw
  refine lv_iload_n hx hb d_Mod_readPlain_2 rfl (lv_at hl 2 rfl) ?_
  refine lv_iload_n hx hb d_Mod_readPlain_3 rfl (lv_at hl 1 rfl) ?_
  refine lv_icmp_ge (tgt := 70) hx hb d_Mod_readPlain_4 (by decide) (fun c1253 => ?_) (fun c1253 => ?_)
  · have hw := hw.1 c1253
    exact hret x H locs 70 ls d_Mod_readPlain_70 hw hW hS
  · have hw := hw.2 c1253
    refine lv_aload_n hx hb d_Mod_readPlain_7 rfl (lv_at hl 0 rfl) ?_
    refine w_geti (k := 69) (t := 12) (C := R_Mod) (T := F_Mod) (N := 167) hx hb hT hown hK hW ko_0.1 ko_0.2 (by decide) in_Mod rfl rfl (by decide) rfl fr_Mod_69 w_9_5 d_Mod_readPlain_8 ?_
    refine lv_if_ne (tgt := 70) hx hb d_Mod_readPlain_11 (by decide) (fun c1254 => ?_) (fun c1254 => ?_)
    · have hw := hw.1 c1254
      exact hret x H locs 70 ls d_Mod_readPlain_70 hw hW hS
    · have hw := hw.2 c1254
      refine lv_aload_n hx hb d_Mod_readPlain_14 rfl (lv_at hl 0 rfl) ?_
      refine lv_aload_n hx hb d_Mod_readPlain_15 rfl (lv_at hl 0 rfl) ?_
      refine w_geti (k := 68) (t := 12) (C := R_Mod) (T := F_Mod) (N := 167) hx hb hT hown hK hW ko_0.1 ko_0.2 (by decide) in_Mod rfl rfl (by decide) rfl fr_Mod_68 w_9_4 d_Mod_readPlain_16 ?_
      have hF := hW.free hS hA
      refine va_calll (va_runV (C := R_Mod) (As := [.int (fI x 0 68)]) (rest := []) ⟨hx, hb, hml, hown, hT⟩ (k_Mod_varint l dC dI cI cB cJ cZ ad H.size (fI x 0 68) x  hw) ⟨callB_of 1 hT (gwt_in w_12_124) rfl rfl rfl (hT _ w_1_15) (hT _ w_12_121) (by decide +kernel) ⟨Nat.le_trans (Nat.le_of_ble_eq_true rfl) hRf, Nat.le_trans (Nat.le_of_ble_eq_true rfl) hRl⟩, hT _ w_12_123, hT _ ws_187⟩ ⟨PW.blind, va_recv hK hW.1 (ci := 12) (q0 := 0) rfl (pic_obj ko_0.1 ko_0.2 (by decide)), PW.at _ hW hK hN⟩ rfl rfl hl.1 rfl (lv_room (Nat.le_of_ble_eq_true rfl)) d_Mod_readPlain_19 ⟨hRc, hRs⟩) hS (fun q _ h => hF q h) hF (fun r1256 x1255 t H locs ht hvm hw hB hz1 hk1 hS => ?_)
      have hW := Wd.back hB ht hF
      clear hB ht hF hz1 hk1 hvm
      refine lv_lstore_n (lv' := [(3, .long r1256), (0, .ref (ad 0)), (1, .int l1), (2, .int l2)]) hx hb d_Mod_readPlain_22 rfl hl (by decide) rfl (fun ls hl => ?_)
      refine lv_aload_n hx hb d_Mod_readPlain_23 rfl (lv_at hl 1 rfl) ?_
      refine w_geti (k := 69) (t := 12) (C := R_Mod) (T := F_Mod) (N := 167) hx hb hT hown hK hW ko_0.1 ko_0.2 (by decide) in_Mod rfl rfl (by decide) rfl fr_Mod_69 w_9_5 d_Mod_readPlain_24 ?_
      refine lv_if_ne (tgt := 50) hx hb d_Mod_readPlain_27 (by decide) (fun c1257 => ?_) (fun c1257 => ?_)
      · have hw := hw.1 c1257
        exact t_Mod_readPlain_50 hx hb hml hown hT hK hN hA hRc hRs hRf hRl hret hrec2 l1 l2 r1256 x1255 H locs ls  hw hW hS (lv_sub hl [1, 2, 3, 0] rfl)
      · have hw := hw.2 c1257
        refine lv_lload_n hx hb d_Mod_readPlain_30 rfl (lv_at hl 0 rfl) ?_
        refine lv_lconst (v := 0) hx hb d_Mod_readPlain_31 (by decide) ?_
        refine W.lcmp hx hb d_Mod_readPlain_32 ?_
        refine lv_if_lt (tgt := 44) hx hb d_Mod_readPlain_33 (by decide) (fun c1258 => ?_) (fun c1258 => ?_)
        · have hw := hw.1 c1258
          exact t_Mod_readPlain_44 hx hb hml hown hT hK hN hA hRc hRs hRf hRl hret hrec2 l1 l2 r1256 x1255 H locs ls  hw hW hS (lv_sub hl [1, 2, 3, 0] rfl)
        · have hw := hw.2 c1258
          refine lv_lload_n hx hb d_Mod_readPlain_36 rfl (lv_at hl 0 rfl) ?_
          refine lv_ldc2 hx hb hown (hT _ w_12_152) d_Mod_readPlain_37 ?_
          refine W.lcmp hx hb d_Mod_readPlain_40 ?_
          refine lv_if_le (tgt := 50) hx hb d_Mod_readPlain_41 (by decide) (fun c1259 => ?_) (fun c1259 => ?_)
          · have hw := hw.1 c1259
            exact t_Mod_readPlain_50 hx hb hml hown hT hK hN hA hRc hRs hRf hRl hret hrec2 l1 l2 r1256 x1255 H locs ls  hw hW hS (lv_sub hl [1, 2, 3, 0] rfl)
          · have hw := hw.2 c1259
            exact t_Mod_readPlain_44 hx hb hml hown hT hK hN hA hRc hRs hRf hRl hret hrec2 l1 l2 r1256 x1255 H locs ls  hw hW hS (lv_sub hl [1, 2, 3, 0] rfl)
set_option maxHeartbeats 4000000 in
set_option maxRecDepth 100000 in
theorem tl_Mod_readPlain_2 {p : Program} {l : Launch} {e : Env} {R : Room} {s : State} {m : MethodId} {args : Array Value} {below : List Frame} {meth : Method} {c : Code} {cells slots : Nat} {Q : State → Prop} {dC : Nat → ClassId} {dI : Nat → Nat → Nat} {cI cB cJ cZ : ClassId} {A : Nat → Prop} {ad : Nat → Nat} {post : St → Prop} (hx : p.tables.exec = Jvm.exec) (hb : c.code = b_Mod_readPlain) (hml : c.maxLocals = 5) (hown : s.vm.findClass R_Mod = some m.cls) (hT : ∀ w ∈ TG, w.before args s = true) (hK : va_K (dC, dI) CL (TY cI cB cJ cZ) s) (hN : NW s) (hA : ∀ q : Nat, s.heap.size ≤ q → A q) (hRc : cells ≤ R.cells) (hRs : slots ≤ R.slots) (hRf : 1 ≤ R.frames) (hRl : 25 ≤ R.locals) (hret : ∀ (x : St) (H : Heap) (locs : List Loc) (pc : Nat) (ls : Array Slot), decode b_Mod_readPlain pc = .ok (.return_, 1) → post x → Wd dC dI cI cB cJ cZ ad stM kcM 115 A x H → va_S A s.heap H locs → W p l e R s m args below meth c H locs cells slots Q (F0 m pc ls []))  : ∀ n : Nat, ∀ (l1 : Int32) (l2 : Int32) (x : St) (H : Heap) (locs : List Loc) (ls : Array Slot), wl_Mod_readPlain_2 post n l1 l2 x → Wd dC dI cI cB cJ cZ ad stM kcM 115 A x H → va_S A s.heap H locs → lv_has ls 5 [(0, .ref (ad 0)), (1, .int l1), (2, .int l2)] → W p l e R s m args below meth c H locs cells slots Q (F0 m 2 ls []) := by
  intro n
  induction n with
  | zero => intro l1 l2 x H locs ls  hw; exact hw.elim
  | succ n ih => intro l1 l2 x H locs ls  hw hW hS hl; exact t_Mod_readPlain_2 hx hb hml hown hT hK hN hA hRc hRs hRf hRl hret  ih l1 l2 x H locs ls  hw hW hS hl
set_option maxRecDepth 100000 in
set_option maxHeartbeats 4000000 in
set_option maxRecDepth 100000 in
theorem t_Mod_readPlain_e {p : Program} {l : Launch} {e : Env} {R : Room} {s : State} {m : MethodId} {args : Array Value} {below : List Frame} {meth : Method} {c : Code} {cells slots : Nat} {Q : State → Prop} {dC : Nat → ClassId} {dI : Nat → Nat → Nat} {cI cB cJ cZ : ClassId} {A : Nat → Prop} {ad : Nat → Nat} {post : St → Prop} (hx : p.tables.exec = Jvm.exec) (hb : c.code = b_Mod_readPlain) (hml : c.maxLocals = 5) (hown : s.vm.findClass R_Mod = some m.cls) (hT : ∀ w ∈ TG, w.before args s = true) (hK : va_K (dC, dI) CL (TY cI cB cJ cZ) s) (hN : NW s) (hA : ∀ q : Nat, s.heap.size ≤ q → A q) (hRc : cells ≤ R.cells) (hRs : slots ≤ R.slots) (hRf : 1 ≤ R.frames) (hRl : 25 ≤ R.locals) (hret : ∀ (x : St) (H : Heap) (locs : List Loc) (pc : Nat) (ls : Array Slot), decode b_Mod_readPlain pc = .ok (.return_, 1) → post x → Wd dC dI cI cB cJ cZ ad stM kcM 115 A x H → va_S A s.heap H locs → W p l e R s m args below meth c H locs cells slots Q (F0 m pc ls [])) : ∀ (l1 : Int32) (x : St) (H : Heap) (locs : List Loc) (ls : Array Slot), wp_Mod_readPlain post l1 x → Wd dC dI cI cB cJ cZ ad stM kcM 115 A x H → va_S A s.heap H locs → lv_has ls 5 [(0, .ref (ad 0)), (1, .int l1)] → W p l e R s m args below meth c H locs cells slots Q (F0 m 0 ls []) := by
  intro l1 x H locs ls  hw hW hS hl
  unfold wp_Mod_readPlain at hw
  refine lv_iconst (v := 0) hx hb d_Mod_readPlain_0 (by decide) ?_
  refine lv_istore_n (lv' := [(2, .int 0), (0, .ref (ad 0)), (1, .int l1)]) hx hb d_Mod_readPlain_1 rfl hl (by decide) rfl (fun ls hl => ?_)
  obtain ⟨n, hw⟩ := hw
  exact tl_Mod_readPlain_2 hx hb hml hown hT hK hN hA hRc hRs hRf hRl hret  n l1 0 x H locs ls  hw hW hS (lv_sub hl [1, 2, 0] rfl)
set_option maxHeartbeats 4000000 in
set_option maxRecDepth 100000 in
theorem k_Mod_readPlain (l : Launch) (dC : Nat → ClassId) (dI : Nat → Nat → Nat) (cI cB cJ cZ : ClassId) (ad : Nat → Nat) (sz : Nat) (l1 : Int32) (x : St) {post : St → Prop} (hw : wp_Mod_readPlain post l1 x) : Met l y_Mod_readPlain (wsOf y_Mod_readPlain b_Mod_readPlain 5 (none)) ({ frames := 1, cells := 0, slots := 0, locals := 25 }) (va_Pc [.ref (ad 0), .int l1] (PW dC dI cI cB cJ cZ ad stM kcM 115 sz x)) (va_Qv (fun (y : St) => post y) (fun y t => Wd dC dI cI cB cJ cZ ad stM kcM 115 (va_A (pic ad stM kcM 115 cI cB cJ cZ x) sz) y t.heap) (va_A (pic ad stM kcM 115 cI cB cJ cZ x) sz)) 0 0 (va_A (pic ad stM kcM 115 cI cB cJ cZ x) sz) := by
  refine Met.ofW (cc := b_Mod_readPlain) (maxL := 5) (ret := none) (by decide) rfl ?_
  intro p e s m args below meth c s₁ B hml hv
  obtain ⟨rfl, hsz, hW0, hK, hN⟩ := hv
  have hx := B.exec
  have hb := B.bytes
  have hr := B.returns
  have hts := atoms_spec B.pre
  have hT : ∀ w ∈ TG, w.before _ s = true := fun w h => hts w (List.mem_cons_of_mem _ h)
  have hown : s.vm.findClass R_Mod = some m.cls := findClass_of_methodNamed B.named
  have hlocks := B.notSynchronized
  subst hsz
  have hW : Wd dC dI cI cB cJ cZ ad stM kcM 115 (va_A (pic ad stM kcM 115 cI cB cJ cZ x) s.heap.size) x s.heap := ⟨hW0.1, hW0.2.1.self (sz := s.heap.size), hW0.2.2⟩
  generalize hAe : va_A (pic ad stM kcM 115 cI cB cJ cZ x) s.heap.size = A at hW ⊢
  have hA : ∀ q : Nat, s.heap.size ≤ q → A q := fun q h => by rw [← hAe]; exact Or.inr h
  have hS : va_S A s.heap s.heap [] := va_S.rf
  have hl := lv_entry ([.ref (ad 0), .int l1]) (n := 5) (Nat.le_of_ble_eq_true rfl)
  rw [lg_entry_eq]
  generalize (lg_sl ([.ref (ad 0), .int l1]) ++ List.replicate (5 - (lg_sl ([.ref (ad 0), .int l1])).length) Slot.unset).toArray = ls at hl ⊢
  have hl : lv_has ls 5 [(0, .ref (ad 0)), (1, .int l1)] := hl
  exact t_Mod_readPlain_e hx hb hml hown hT hK hN hA (Nat.le_refl 0) (Nat.le_refl 0) (Nat.le_refl 1) (Nat.le_refl 25) (fun x H locs pc ls hd hp hW hS => W.vret hx hb hr (fun t ht hM => ⟨⟨x, rfl, hp, Wd.back hW ht.symm (fun _ z => z)⟩, hS.F ht⟩) hS.2.2 hd hlocks)  l1 x _ _ ls  hw hW hS hl
set_option maxRecDepth 100000 in
set_option maxHeartbeats 4000000 in
set_option maxRecDepth 100000 in
theorem t_Mod_readBlock_305 {p : Program} {l : Launch} {e : Env} {R : Room} {s : State} {m : MethodId} {args : Array Value} {below : List Frame} {meth : Method} {c : Code} {cells slots : Nat} {Q : State → Prop} {dC : Nat → ClassId} {dI : Nat → Nat → Nat} {cI cB cJ cZ : ClassId} {A : Nat → Prop} {ad : Nat → Nat} {post : St → Prop} {rec109 : Int32 → Int32 → Int32 → Int64 → Int32 → Int32 → St → Prop} (hx : p.tables.exec = Jvm.exec) (hb : c.code = b_Mod_readBlock) (hml : c.maxLocals = 13) (hown : s.vm.findClass R_Mod = some m.cls) (hT : ∀ w ∈ TG, w.before args s = true) (hK : va_K (dC, dI) CL (TY cI cB cJ cZ) s) (hN : NW s) (hA : ∀ q : Nat, s.heap.size ≤ q → A q) (hRc : cells ≤ R.cells) (hRs : slots ≤ R.slots) (hRf : 1 ≤ R.frames) (hRl : 25 ≤ R.locals) (hret : ∀ (x : St) (H : Heap) (locs : List Loc) (pc : Nat) (ls : Array Slot), decode b_Mod_readBlock pc = .ok (.return_, 1) → post x → Wd dC dI cI cB cJ cZ ad stM kcM 115 A x H → va_S A s.heap H locs → W p l e R s m args below meth c H locs cells slots Q (F0 m pc ls [])) (hrec109 : ∀ (l1 : Int32) (l2 : Int32) (l3 : Int32) (l4 : Int64) (l6 : Int32) (l7 : Int32) (x : St) (H : Heap) (locs : List Loc) (ls : Array Slot), rec109 l1 l2 l3 l4 l6 l7 x → Wd dC dI cI cB cJ cZ ad stM kcM 115 A x H → va_S A s.heap H locs → lv_has ls 13 [(0, .ref (ad 0)), (1, .int l1), (2, .int l2), (3, .int l3), (4, .long l4), (6, .int l6), (7, .int l7)] → W p l e R s m args below meth c H locs cells slots Q (F0 m 109 ls [])) : ∀ (l1 : Int32) (l2 : Int32) (l3 : Int32) (l4 : Int64) (l6 : Int32) (l7 : Int32) (l8 : Int32) (l9 : Int32) (x : St) (H : Heap) (locs : List Loc) (ls : Array Slot), j_Mod_readBlock_305 post rec109 l1 l2 l3 l4 l6 l7 l8 l9 x → Wd dC dI cI cB cJ cZ ad stM kcM 115 A x H → va_S A s.heap H locs → lv_has ls 13 [(0, .ref (ad 0)), (1, .int l1), (2, .int l2), (3, .int l3), (4, .long l4), (6, .int l6), (7, .int l7), (8, .int l8), (9, .int l9)] → W p l e R s m args below meth c H locs cells slots Q (F0 m 305 ls []) := by
  intro l1 l2 l3 l4 l6 l7 l8 l9 x H locs ls  hw hW hS hl
  unfold j_Mod_readBlock_305 at hw
  refine lv_aload_n hx hb d_Mod_readBlock_305 rfl (lv_at hl 0 rfl) ?_
  refine lv_dup hx hb d_Mod_readBlock_306 rfl ?_
  refine w_geti (k := 67) (t := 12) (C := R_Mod) (T := F_Mod) (N := 167) hx hb hT hown hK hW ko_0.1 ko_0.2 (by decide) in_Mod rfl rfl (by decide) rfl fr_Mod_67 w_9_3 d_Mod_readBlock_307 ?_
  refine lv_iconst (v := 2) hx hb d_Mod_readBlock_310 (by decide) ?_
  refine lv_iload hx hb d_Mod_readBlock_311 (lv_at hl 7 rfl) ?_
  refine lv_imul hx hb d_Mod_readBlock_313 ?_
  refine lv_iadd hx hb d_Mod_readBlock_314 ?_
  refine w_puti (ty := .int) (k := 67) (t := 12) (C := R_Mod) (T := F_Mod) (N := 167) hx hb hT hown hK hW hS ko_0.1 ko_0.2 (by decide) in_Mod t_Mod t_Mod_ok n_Mod rfl rfl (by decide) rfl fr_Mod_67 w_9_3 (by decide +kernel) rfl rfl d_Mod_readBlock_315 (fun H locs hW hS => ?_)
  obtain ⟨x1260, ex1260⟩ : ∃ y : St, y = setI x 0 67 ((fI x 0 67) + (2 * l8)) := ⟨_, rfl⟩
  rw [← ex1260] at hW
  have hw := hw x1260 ex1260
  refine lv_iinc (v := (l7 + 1)) (lv' := [(7, .int (l7 + 1)), (0, .ref (ad 0)), (1, .int l1), (2, .int l2), (3, .int l3), (4, .long l4), (6, .int l6), (8, .int l8), (9, .int l9)]) hx hb d_Mod_readBlock_318 hl (k := 6) rfl rfl (by decide) rfl (fun ls hl => ?_)
  refine lv_goto (tgt := 109) hx hb d_Mod_readBlock_321 (by decide) ?_
  exact hrec109 l1 l2 l3 l4 l6 (l7 + 1) x1260 H locs ls  hw hW hS (lv_sub hl [1, 2, 3, 4, 5, 6, 0] rfl)
set_option maxRecDepth 100000 in
set_option maxHeartbeats 4000000 in
set_option maxRecDepth 100000 in
theorem t_Mod_readBlock_299 {p : Program} {l : Launch} {e : Env} {R : Room} {s : State} {m : MethodId} {args : Array Value} {below : List Frame} {meth : Method} {c : Code} {cells slots : Nat} {Q : State → Prop} {dC : Nat → ClassId} {dI : Nat → Nat → Nat} {cI cB cJ cZ : ClassId} {A : Nat → Prop} {ad : Nat → Nat} {post : St → Prop} {rec109 : Int32 → Int32 → Int32 → Int64 → Int32 → Int32 → St → Prop} {rec166 : Int32 → Int32 → Int32 → Int64 → Int32 → Int32 → Int32 → Int32 → St → Prop} (hx : p.tables.exec = Jvm.exec) (hb : c.code = b_Mod_readBlock) (hml : c.maxLocals = 13) (hown : s.vm.findClass R_Mod = some m.cls) (hT : ∀ w ∈ TG, w.before args s = true) (hK : va_K (dC, dI) CL (TY cI cB cJ cZ) s) (hN : NW s) (hA : ∀ q : Nat, s.heap.size ≤ q → A q) (hRc : cells ≤ R.cells) (hRs : slots ≤ R.slots) (hRf : 1 ≤ R.frames) (hRl : 25 ≤ R.locals) (hret : ∀ (x : St) (H : Heap) (locs : List Loc) (pc : Nat) (ls : Array Slot), decode b_Mod_readBlock pc = .ok (.return_, 1) → post x → Wd dC dI cI cB cJ cZ ad stM kcM 115 A x H → va_S A s.heap H locs → W p l e R s m args below meth c H locs cells slots Q (F0 m pc ls [])) (hrec109 : ∀ (l1 : Int32) (l2 : Int32) (l3 : Int32) (l4 : Int64) (l6 : Int32) (l7 : Int32) (x : St) (H : Heap) (locs : List Loc) (ls : Array Slot), rec109 l1 l2 l3 l4 l6 l7 x → Wd dC dI cI cB cJ cZ ad stM kcM 115 A x H → va_S A s.heap H locs → lv_has ls 13 [(0, .ref (ad 0)), (1, .int l1), (2, .int l2), (3, .int l3), (4, .long l4), (6, .int l6), (7, .int l7)] → W p l e R s m args below meth c H locs cells slots Q (F0 m 109 ls [])) (hrec166 : ∀ (l1 : Int32) (l2 : Int32) (l3 : Int32) (l4 : Int64) (l6 : Int32) (l7 : Int32) (l8 : Int32) (l9 : Int32) (x : St) (H : Heap) (locs : List Loc) (ls : Array Slot), rec166 l1 l2 l3 l4 l6 l7 l8 l9 x → Wd dC dI cI cB cJ cZ ad stM kcM 115 A x H → va_S A s.heap H locs → lv_has ls 13 [(0, .ref (ad 0)), (1, .int l1), (2, .int l2), (3, .int l3), (4, .long l4), (6, .int l6), (7, .int l7), (8, .int l8), (9, .int l9)] → W p l e R s m args below meth c H locs cells slots Q (F0 m 166 ls [])) : ∀ (l1 : Int32) (l2 : Int32) (l3 : Int32) (l4 : Int64) (l6 : Int32) (l7 : Int32) (l8 : Int32) (l9 : Int32) (l10 : Int64) (l12 : Int32) (x : St) (H : Heap) (locs : List Loc) (ls : Array Slot), j_Mod_readBlock_299 post rec109 rec166 l1 l2 l3 l4 l6 l7 l8 l9 l10 l12 x → Wd dC dI cI cB cJ cZ ad stM kcM 115 A x H → va_S A s.heap H locs → lv_has ls 13 [(0, .ref (ad 0)), (1, .int l1), (2, .int l2), (3, .int l3), (4, .long l4), (6, .int l6), (7, .int l7), (8, .int l8), (9, .int l9), (10, .long l10), (12, .int l12)] → W p l e R s m args below meth c H locs cells slots Q (F0 m 299 ls []) := by
  intro l1 l2 l3 l4 l6 l7 l8 l9 l10 l12 x H locs ls  hw hW hS hl
  unfold j_Mod_readBlock_299 at hw
  refine lv_iinc (v := (l9 + 1)) (lv' := [(9, .int (l9 + 1)), (0, .ref (ad 0)), (1, .int l1), (2, .int l2), (3, .int l3), (4, .long l4), (6, .int l6), (7, .int l7), (8, .int l8), (10, .long l10), (12, .int l12)]) hx hb d_Mod_readBlock_299 hl (k := 8) rfl rfl (by decide) rfl (fun ls hl => ?_)
  refine lv_goto (tgt := 166) hx hb d_Mod_readBlock_302 (by decide) ?_
  exact hrec166 l1 l2 l3 l4 l6 l7 l8 (l9 + 1) x H locs ls  hw hW hS (lv_sub hl [1, 2, 3, 4, 5, 6, 7, 8, 0] rfl)
set_option maxRecDepth 100000 in
set_option maxHeartbeats 4000000 in
set_option maxRecDepth 100000 in
theorem t_Mod_readBlock_187 {p : Program} {l : Launch} {e : Env} {R : Room} {s : State} {m : MethodId} {args : Array Value} {below : List Frame} {meth : Method} {c : Code} {cells slots : Nat} {Q : State → Prop} {dC : Nat → ClassId} {dI : Nat → Nat → Nat} {cI cB cJ cZ : ClassId} {A : Nat → Prop} {ad : Nat → Nat} {post : St → Prop} {rec109 : Int32 → Int32 → Int32 → Int64 → Int32 → Int32 → St → Prop} {rec166 : Int32 → Int32 → Int32 → Int64 → Int32 → Int32 → Int32 → Int32 → St → Prop} {rec187 : Int32 → Int32 → Int32 → Int64 → Int32 → Int32 → Int32 → Int32 → Int64 → Int32 → St → Prop} (hx : p.tables.exec = Jvm.exec) (hb : c.code = b_Mod_readBlock) (hml : c.maxLocals = 13) (hown : s.vm.findClass R_Mod = some m.cls) (hT : ∀ w ∈ TG, w.before args s = true) (hK : va_K (dC, dI) CL (TY cI cB cJ cZ) s) (hN : NW s) (hA : ∀ q : Nat, s.heap.size ≤ q → A q) (hRc : cells ≤ R.cells) (hRs : slots ≤ R.slots) (hRf : 1 ≤ R.frames) (hRl : 25 ≤ R.locals) (hret : ∀ (x : St) (H : Heap) (locs : List Loc) (pc : Nat) (ls : Array Slot), decode b_Mod_readBlock pc = .ok (.return_, 1) → post x → Wd dC dI cI cB cJ cZ ad stM kcM 115 A x H → va_S A s.heap H locs → W p l e R s m args below meth c H locs cells slots Q (F0 m pc ls [])) (hrec109 : ∀ (l1 : Int32) (l2 : Int32) (l3 : Int32) (l4 : Int64) (l6 : Int32) (l7 : Int32) (x : St) (H : Heap) (locs : List Loc) (ls : Array Slot), rec109 l1 l2 l3 l4 l6 l7 x → Wd dC dI cI cB cJ cZ ad stM kcM 115 A x H → va_S A s.heap H locs → lv_has ls 13 [(0, .ref (ad 0)), (1, .int l1), (2, .int l2), (3, .int l3), (4, .long l4), (6, .int l6), (7, .int l7)] → W p l e R s m args below meth c H locs cells slots Q (F0 m 109 ls [])) (hrec166 : ∀ (l1 : Int32) (l2 : Int32) (l3 : Int32) (l4 : Int64) (l6 : Int32) (l7 : Int32) (l8 : Int32) (l9 : Int32) (x : St) (H : Heap) (locs : List Loc) (ls : Array Slot), rec166 l1 l2 l3 l4 l6 l7 l8 l9 x → Wd dC dI cI cB cJ cZ ad stM kcM 115 A x H → va_S A s.heap H locs → lv_has ls 13 [(0, .ref (ad 0)), (1, .int l1), (2, .int l2), (3, .int l3), (4, .long l4), (6, .int l6), (7, .int l7), (8, .int l8), (9, .int l9)] → W p l e R s m args below meth c H locs cells slots Q (F0 m 166 ls [])) (hrec187 : ∀ (l1 : Int32) (l2 : Int32) (l3 : Int32) (l4 : Int64) (l6 : Int32) (l7 : Int32) (l8 : Int32) (l9 : Int32) (l10 : Int64) (l12 : Int32) (x : St) (H : Heap) (locs : List Loc) (ls : Array Slot), rec187 l1 l2 l3 l4 l6 l7 l8 l9 l10 l12 x → Wd dC dI cI cB cJ cZ ad stM kcM 115 A x H → va_S A s.heap H locs → lv_has ls 13 [(0, .ref (ad 0)), (1, .int l1), (2, .int l2), (3, .int l3), (4, .long l4), (6, .int l6), (7, .int l7), (8, .int l8), (9, .int l9), (10, .long l10), (12, .int l12)] → W p l e R s m args below meth c H locs cells slots Q (F0 m 187 ls [])) : ∀ (l1 : Int32) (l2 : Int32) (l3 : Int32) (l4 : Int64) (l6 : Int32) (l7 : Int32) (l8 : Int32) (l9 : Int32) (l10 : Int64) (l12 : Int32) (x : St) (H : Heap) (locs : List Loc) (ls : Array Slot), j_Mod_readBlock_187 post rec109 rec166 rec187 l1 l2 l3 l4 l6 l7 l8 l9 l10 l12 x → Wd dC dI cI cB cJ cZ ad stM kcM 115 A x H → va_S A s.heap H locs → lv_has ls 13 [(0, .ref (ad 0)), (1, .int l1), (2, .int l2), (3, .int l3), (4, .long l4), (6, .int l6), (7, .int l7), (8, .int l8), (9, .int l9), (10, .long l10), (12, .int l12)] → W p l e R s m args below meth c H locs cells slots Q (F0 m 187 ls []) := by
  intro l1 l2 l3 l4 l6 l7 l8 l9 l10 l12 x H locs ls  hw hW hS hl
  unfold j_Mod_readBlock_187 at hw
  refine lv_iload hx hb d_Mod_readBlock_187 (lv_at hl 10 rfl) ?_
  refine lv_iload hx hb d_Mod_readBlock_189 (lv_at hl 7 rfl) ?_
  refine lv_icmp_ge (tgt := 244) hx hb d_Mod_readBlock_191 (by decide) (fun c1261 => ?_) (fun c1261 => ?_)
  · have hw := hw.1 c1261
    refine lv_iload_n hx hb d_Mod_readBlock_244 rfl (lv_at hl 1 rfl) ?_
    refine lv_bipush (v := 16) hx hb d_Mod_readBlock_245 (by decide) ?_
    refine lv_iload hx hb d_Mod_readBlock_247 (lv_at hl 6 rfl) ?_
    refine lv_imul hx hb d_Mod_readBlock_249 ?_
    refine lv_iadd hx hb d_Mod_readBlock_250 ?_
    refine lv_iload hx hb d_Mod_readBlock_251 (lv_at hl 8 rfl) ?_
    refine lv_iadd hx hb d_Mod_readBlock_253 ?_
    refine lv_topi (fun v1262 ev1262 => ?_)
    have hw := hw v1262 ev1262
    refine lv_istore (lv' := [(12, .int v1262), (0, .ref (ad 0)), (1, .int l1), (2, .int l2), (3, .int l3), (4, .long l4), (6, .int l6), (7, .int l7), (8, .int l8), (9, .int l9), (10, .long l10)]) hx hb d_Mod_readBlock_254 hl (by decide) rfl (fun ls hl => ?_)
    refine lv_iload hx hb d_Mod_readBlock_256 (lv_at hl 0 rfl) ?_
    refine lv_iload_n hx hb d_Mod_readBlock_258 rfl (lv_at hl 3 rfl) ?_
    refine lv_icmp_ge (tgt := 287) hx hb d_Mod_readBlock_259 (by decide) (fun c1263 => ?_) (fun c1263 => ?_)
    · have hw := hw.1 c1263
      refine lv_lload hx hb d_Mod_readBlock_287 (lv_at hl 10 rfl) ?_
      refine lv_lconst (v := 0) hx hb d_Mod_readBlock_289 (by decide) ?_
      refine W.lcmp hx hb d_Mod_readBlock_290 ?_
      refine lv_if_eq (tgt := 299) hx hb d_Mod_readBlock_291 (by decide) (fun c1264 => ?_) (fun c1264 => ?_)
      · have hw := hw.1 c1264
        exact t_Mod_readBlock_299 hx hb hml hown hT hK hN hA hRc hRs hRf hRl hret hrec109 hrec166 l1 l2 l3 l4 l6 l7 l8 l9 l10 v1262 x H locs ls  hw hW hS (lv_sub hl [1, 2, 3, 4, 5, 6, 7, 8, 9, 10, 0] rfl)
      · have hw := hw.2 c1264
        refine lv_aload_n hx hb d_Mod_readBlock_294 rfl (lv_at hl 1 rfl) ?_
        refine lv_iconst (v := 5) hx hb d_Mod_readBlock_295 (by decide) ?_
        refine w_puti (ty := .int) (k := 69) (t := 12) (C := R_Mod) (T := F_Mod) (N := 167) hx hb hT hown hK hW hS ko_0.1 ko_0.2 (by decide) in_Mod t_Mod t_Mod_ok n_Mod rfl rfl (by decide) rfl fr_Mod_69 w_9_5 (by decide +kernel) rfl rfl d_Mod_readBlock_296 (fun H locs hW hS => ?_)
        obtain ⟨x1265, ex1265⟩ : ∃ y : St, y = setI x 0 69 5 := ⟨_, rfl⟩
        rw [← ex1265] at hW
        have hw := hw x1265 ex1265
        exact t_Mod_readBlock_299 hx hb hml hown hT hK hN hA hRc hRs hRf hRl hret hrec109 hrec166 l1 l2 l3 l4 l6 l7 l8 l9 l10 v1262 x1265 H locs ls  hw hW hS (lv_sub hl [1, 2, 3, 4, 5, 6, 7, 8, 9, 10, 0] rfl)
    · have hw := hw.2 c1263
      refine lv_aload_n hx hb d_Mod_readBlock_262 rfl (lv_at hl 1 rfl) ?_
      refine w_getf (q := 43) (k := 70) (t := 12) (C := R_Mod) (T := F_Mod) (N := 167) hx hb hT hown hK hW ko_0.1 ko_0.2 (by decide) in_Mod rfl rfl (by decide) rfl fr_Mod_70 w_9_6 d_Mod_readBlock_263 rfl ?_
      refine lv_iload hx hb d_Mod_readBlock_266 (lv_at hl 0 rfl) ?_
      refine lv_iconst (v := 1) hx hb d_Mod_readBlock_268 (by decide) ?_
      refine lv_iadd hx hb d_Mod_readBlock_269 ?_
      refine lv_aload_n hx hb d_Mod_readBlock_270 rfl (lv_at hl 1 rfl) ?_
      refine w_getf (q := 43) (k := 70) (t := 12) (C := R_Mod) (T := F_Mod) (N := 167) hx hb hT hown hK hW ko_0.1 ko_0.2 (by decide) in_Mod rfl rfl (by decide) rfl fr_Mod_70 w_9_6 d_Mod_readBlock_271 rfl ?_
      refine lv_iload hx hb d_Mod_readBlock_274 (lv_at hl 0 rfl) ?_
      obtain ⟨hi, hw⟩ := hw
      refine w_lald (o := 43) hx hb hK hW ko_43.1 ko_43.2 hi d_Mod_readBlock_276 ?_
      refine lv_lload hx hb d_Mod_readBlock_277 (lv_at hl 5 rfl) ?_
      refine lv_ladd hx hb d_Mod_readBlock_279 ?_
      refine lv_lload hx hb d_Mod_readBlock_280 (lv_at hl 10 rfl) ?_
      refine lv_ladd hx hb d_Mod_readBlock_282 ?_
      obtain ⟨hi, hw⟩ := hw
      refine w_last (o := 43) hx hb hK hW hS ko_43.1 ko_43.2 hi d_Mod_readBlock_283 (fun H locs hW hS => ?_)
      obtain ⟨x1266, ex1266⟩ : ∃ y : St, y = setL x 43 (v1262 + 1) (((rL x 43 v1262) + l4) + l10) := ⟨_, rfl⟩
      rw [← ex1266] at hW
      have hw := hw x1266 ex1266
      refine lv_goto (tgt := 299) hx hb d_Mod_readBlock_284 (by decide) ?_
      exact t_Mod_readBlock_299 hx hb hml hown hT hK hN hA hRc hRs hRf hRl hret hrec109 hrec166 l1 l2 l3 l4 l6 l7 l8 l9 l10 v1262 x1266 H locs ls  hw hW hS (lv_sub hl [1, 2, 3, 4, 5, 6, 7, 8, 9, 10, 0] rfl)
  · have hw := hw.2 c1261
    refine lv_lload hx hb d_Mod_readBlock_194 (lv_at hl 9 rfl) ?_
    refine lv_aload_n hx hb d_Mod_readBlock_196 rfl (lv_at hl 0 rfl) ?_
    refine w_getf (q := 41) (k := 62) (t := 12) (C := R_Mod) (T := F_Mod) (N := 167) hx hb hT hown hK hW ko_0.1 ko_0.2 (by decide) in_Mod rfl rfl (by decide) rfl fr_Mod_62 w_8_238 d_Mod_readBlock_197 rfl ?_
    refine lv_aload_n hx hb d_Mod_readBlock_200 rfl (lv_at hl 0 rfl) ?_
    refine w_geti (k := 67) (t := 12) (C := R_Mod) (T := F_Mod) (N := 167) hx hb hT hown hK hW ko_0.1 ko_0.2 (by decide) in_Mod rfl rfl (by decide) rfl fr_Mod_67 w_9_3 d_Mod_readBlock_201 ?_
    refine lv_iload hx hb d_Mod_readBlock_204 (lv_at hl 7 rfl) ?_
    refine lv_iload hx hb d_Mod_readBlock_206 (lv_at hl 8 rfl) ?_
    refine lv_imul hx hb d_Mod_readBlock_208 ?_
    refine lv_iload hx hb d_Mod_readBlock_209 (lv_at hl 10 rfl) ?_
    refine lv_iadd hx hb d_Mod_readBlock_211 ?_
    refine lv_bipush (v := 8) hx hb d_Mod_readBlock_212 (by decide) ?_
    refine lv_idiv hx hb d_Mod_readBlock_214 (by decide) ?_
    refine lv_iadd hx hb d_Mod_readBlock_215 ?_
    obtain ⟨hi, hw⟩ := hw
    refine w_iald (o := 41) hx hb hK hW ko_41.1 ko_41.2 hi d_Mod_readBlock_216 ?_
    refine lv_iload hx hb d_Mod_readBlock_217 (lv_at hl 7 rfl) ?_
    refine lv_iload hx hb d_Mod_readBlock_219 (lv_at hl 8 rfl) ?_
    refine lv_imul hx hb d_Mod_readBlock_221 ?_
    refine lv_iload hx hb d_Mod_readBlock_222 (lv_at hl 10 rfl) ?_
    refine lv_iadd hx hb d_Mod_readBlock_224 ?_
    refine lv_bipush (v := 8) hx hb d_Mod_readBlock_225 (by decide) ?_
    refine lv_irem hx hb d_Mod_readBlock_227 (by decide) ?_
    refine lv_ishr hx hb d_Mod_readBlock_228 ?_
    refine lv_iconst (v := 1) hx hb d_Mod_readBlock_229 (by decide) ?_
    refine lv_iand hx hb d_Mod_readBlock_230 ?_
    refine lv_i2l hx hb d_Mod_readBlock_231 rfl ?_
    refine lv_iload hx hb d_Mod_readBlock_232 (lv_at hl 10 rfl) ?_
    refine lv_lshl hx hb d_Mod_readBlock_234 rfl ?_
    refine lv_lor hx hb d_Mod_readBlock_235 ?_
    refine lv_topl (fun v1267 ev1267 => ?_)
    have hw := hw v1267 ev1267
    refine lv_lstore (lv' := [(10, .long v1267), (0, .ref (ad 0)), (1, .int l1), (2, .int l2), (3, .int l3), (4, .long l4), (6, .int l6), (7, .int l7), (8, .int l8), (9, .int l9), (12, .int l12)]) hx hb d_Mod_readBlock_236 hl (by decide) rfl (fun ls hl => ?_)
    refine lv_iinc (v := (l12 + 1)) (lv' := [(12, .int (l12 + 1)), (10, .long v1267), (0, .ref (ad 0)), (1, .int l1), (2, .int l2), (3, .int l3), (4, .long l4), (6, .int l6), (7, .int l7), (8, .int l8), (9, .int l9)]) hx hb d_Mod_readBlock_238 hl (k := 10) rfl rfl (by decide) rfl (fun ls hl => ?_)
    refine lv_goto (tgt := 187) hx hb d_Mod_readBlock_241 (by decide) ?_
    exact hrec187 l1 l2 l3 l4 l6 l7 l8 l9 v1267 (l12 + 1) x H locs ls  hw hW hS (lv_sub hl [2, 3, 4, 5, 6, 7, 8, 9, 10, 1, 0] rfl)
set_option maxHeartbeats 4000000 in
set_option maxRecDepth 100000 in
theorem tl_Mod_readBlock_187 {p : Program} {l : Launch} {e : Env} {R : Room} {s : State} {m : MethodId} {args : Array Value} {below : List Frame} {meth : Method} {c : Code} {cells slots : Nat} {Q : State → Prop} {dC : Nat → ClassId} {dI : Nat → Nat → Nat} {cI cB cJ cZ : ClassId} {A : Nat → Prop} {ad : Nat → Nat} {post : St → Prop} {rec109 : Int32 → Int32 → Int32 → Int64 → Int32 → Int32 → St → Prop} {rec166 : Int32 → Int32 → Int32 → Int64 → Int32 → Int32 → Int32 → Int32 → St → Prop} (hx : p.tables.exec = Jvm.exec) (hb : c.code = b_Mod_readBlock) (hml : c.maxLocals = 13) (hown : s.vm.findClass R_Mod = some m.cls) (hT : ∀ w ∈ TG, w.before args s = true) (hK : va_K (dC, dI) CL (TY cI cB cJ cZ) s) (hN : NW s) (hA : ∀ q : Nat, s.heap.size ≤ q → A q) (hRc : cells ≤ R.cells) (hRs : slots ≤ R.slots) (hRf : 1 ≤ R.frames) (hRl : 25 ≤ R.locals) (hret : ∀ (x : St) (H : Heap) (locs : List Loc) (pc : Nat) (ls : Array Slot), decode b_Mod_readBlock pc = .ok (.return_, 1) → post x → Wd dC dI cI cB cJ cZ ad stM kcM 115 A x H → va_S A s.heap H locs → W p l e R s m args below meth c H locs cells slots Q (F0 m pc ls [])) (hrec109 : ∀ (l1 : Int32) (l2 : Int32) (l3 : Int32) (l4 : Int64) (l6 : Int32) (l7 : Int32) (x : St) (H : Heap) (locs : List Loc) (ls : Array Slot), rec109 l1 l2 l3 l4 l6 l7 x → Wd dC dI cI cB cJ cZ ad stM kcM 115 A x H → va_S A s.heap H locs → lv_has ls 13 [(0, .ref (ad 0)), (1, .int l1), (2, .int l2), (3, .int l3), (4, .long l4), (6, .int l6), (7, .int l7)] → W p l e R s m args below meth c H locs cells slots Q (F0 m 109 ls [])) (hrec166 : ∀ (l1 : Int32) (l2 : Int32) (l3 : Int32) (l4 : Int64) (l6 : Int32) (l7 : Int32) (l8 : Int32) (l9 : Int32) (x : St) (H : Heap) (locs : List Loc) (ls : Array Slot), rec166 l1 l2 l3 l4 l6 l7 l8 l9 x → Wd dC dI cI cB cJ cZ ad stM kcM 115 A x H → va_S A s.heap H locs → lv_has ls 13 [(0, .ref (ad 0)), (1, .int l1), (2, .int l2), (3, .int l3), (4, .long l4), (6, .int l6), (7, .int l7), (8, .int l8), (9, .int l9)] → W p l e R s m args below meth c H locs cells slots Q (F0 m 166 ls [])) : ∀ n : Nat, ∀ (l1 : Int32) (l2 : Int32) (l3 : Int32) (l4 : Int64) (l6 : Int32) (l7 : Int32) (l8 : Int32) (l9 : Int32) (l10 : Int64) (l12 : Int32) (x : St) (H : Heap) (locs : List Loc) (ls : Array Slot), wl_Mod_readBlock_187 post rec109 rec166 n l1 l2 l3 l4 l6 l7 l8 l9 l10 l12 x → Wd dC dI cI cB cJ cZ ad stM kcM 115 A x H → va_S A s.heap H locs → lv_has ls 13 [(0, .ref (ad 0)), (1, .int l1), (2, .int l2), (3, .int l3), (4, .long l4), (6, .int l6), (7, .int l7), (8, .int l8), (9, .int l9), (10, .long l10), (12, .int l12)] → W p l e R s m args below meth c H locs cells slots Q (F0 m 187 ls []) := by
  intro n
  induction n with
  | zero => intro l1 l2 l3 l4 l6 l7 l8 l9 l10 l12 x H locs ls  hw; exact hw.elim
  | succ n ih => intro l1 l2 l3 l4 l6 l7 l8 l9 l10 l12 x H locs ls  hw hW hS hl; exact t_Mod_readBlock_187 hx hb hml hown hT hK hN hA hRc hRs hRf hRl hret hrec109 hrec166 ih l1 l2 l3 l4 l6 l7 l8 l9 l10 l12 x H locs ls  hw hW hS hl
set_option maxRecDepth 100000 in
set_option maxHeartbeats 4000000 in
set_option maxRecDepth 100000 in
theorem t_Mod_readBlock_166 {p : Program} {l : Launch} {e : Env} {R : Room} {s : State} {m : MethodId} {args : Array Value} {below : List Frame} {meth : Method} {c : Code} {cells slots : Nat} {Q : State → Prop} {dC : Nat → ClassId} {dI : Nat → Nat → Nat} {cI cB cJ cZ : ClassId} {A : Nat → Prop} {ad : Nat → Nat} {post : St → Prop} {rec109 : Int32 → Int32 → Int32 → Int64 → Int32 → Int32 → St → Prop} {rec166 : Int32 → Int32 → Int32 → Int64 → Int32 → Int32 → Int32 → Int32 → St → Prop} (hx : p.tables.exec = Jvm.exec) (hb : c.code = b_Mod_readBlock) (hml : c.maxLocals = 13) (hown : s.vm.findClass R_Mod = some m.cls) (hT : ∀ w ∈ TG, w.before args s = true) (hK : va_K (dC, dI) CL (TY cI cB cJ cZ) s) (hN : NW s) (hA : ∀ q : Nat, s.heap.size ≤ q → A q) (hRc : cells ≤ R.cells) (hRs : slots ≤ R.slots) (hRf : 1 ≤ R.frames) (hRl : 25 ≤ R.locals) (hret : ∀ (x : St) (H : Heap) (locs : List Loc) (pc : Nat) (ls : Array Slot), decode b_Mod_readBlock pc = .ok (.return_, 1) → post x → Wd dC dI cI cB cJ cZ ad stM kcM 115 A x H → va_S A s.heap H locs → W p l e R s m args below meth c H locs cells slots Q (F0 m pc ls [])) (hrec109 : ∀ (l1 : Int32) (l2 : Int32) (l3 : Int32) (l4 : Int64) (l6 : Int32) (l7 : Int32) (x : St) (H : Heap) (locs : List Loc) (ls : Array Slot), rec109 l1 l2 l3 l4 l6 l7 x → Wd dC dI cI cB cJ cZ ad stM kcM 115 A x H → va_S A s.heap H locs → lv_has ls 13 [(0, .ref (ad 0)), (1, .int l1), (2, .int l2), (3, .int l3), (4, .long l4), (6, .int l6), (7, .int l7)] → W p l e R s m args below meth c H locs cells slots Q (F0 m 109 ls [])) (hrec166 : ∀ (l1 : Int32) (l2 : Int32) (l3 : Int32) (l4 : Int64) (l6 : Int32) (l7 : Int32) (l8 : Int32) (l9 : Int32) (x : St) (H : Heap) (locs : List Loc) (ls : Array Slot), rec166 l1 l2 l3 l4 l6 l7 l8 l9 x → Wd dC dI cI cB cJ cZ ad stM kcM 115 A x H → va_S A s.heap H locs → lv_has ls 13 [(0, .ref (ad 0)), (1, .int l1), (2, .int l2), (3, .int l3), (4, .long l4), (6, .int l6), (7, .int l7), (8, .int l8), (9, .int l9)] → W p l e R s m args below meth c H locs cells slots Q (F0 m 166 ls [])) : ∀ (l1 : Int32) (l2 : Int32) (l3 : Int32) (l4 : Int64) (l6 : Int32) (l7 : Int32) (l8 : Int32) (l9 : Int32) (x : St) (H : Heap) (locs : List Loc) (ls : Array Slot), j_Mod_readBlock_166 post rec109 rec166 l1 l2 l3 l4 l6 l7 l8 l9 x → Wd dC dI cI cB cJ cZ ad stM kcM 115 A x H → va_S A s.heap H locs → lv_has ls 13 [(0, .ref (ad 0)), (1, .int l1), (2, .int l2), (3, .int l3), (4, .long l4), (6, .int l6), (7, .int l7), (8, .int l8), (9, .int l9)] → W p l e R s m args below meth c H locs cells slots Q (F0 m 166 ls []) := by
  intro l1 l2 l3 l4 l6 l7 l8 l9 x H locs ls  hw hW hS hl
  unfold j_Mod_readBlock_166 at hw
  refine lv_iload hx hb d_Mod_readBlock_166 (lv_at hl 8 rfl) ?_
  refine lv_bipush (v := 16) hx hb d_Mod_readBlock_168 (by decide) ?_
  refine lv_icmp_ge (tgt := 305) hx hb d_Mod_readBlock_170 (by decide) (fun c1268 => ?_) (fun c1268 => ?_)
  · have hw := hw.1 c1268
    exact t_Mod_readBlock_305 hx hb hml hown hT hK hN hA hRc hRs hRf hRl hret hrec109 l1 l2 l3 l4 l6 l7 l8 l9 x H locs ls  hw hW hS (lv_sub hl [0, 1, 2, 3, 4, 5, 6, 7, 8] rfl)
  · have hw := hw.2 c1268
    refine lv_aload_n hx hb d_Mod_readBlock_173 rfl (lv_at hl 0 rfl) ?_
    refine w_geti (k := 69) (t := 12) (C := R_Mod) (T := F_Mod) (N := 167) hx hb hT hown hK hW ko_0.1 ko_0.2 (by decide) in_Mod rfl rfl (by decide) rfl fr_Mod_69 w_9_5 d_Mod_readBlock_174 ?_
    refine lv_iconst (v := 1) hx hb d_Mod_readBlock_177 (by decide) ?_
    refine lv_icmp_eq (tgt := 305) hx hb d_Mod_readBlock_178 (by decide) (fun c1269 => ?_) (fun c1269 => ?_)
    · have hw := hw.1 c1269
      exact t_Mod_readBlock_305 hx hb hml hown hT hK hN hA hRc hRs hRf hRl hret hrec109 l1 l2 l3 l4 l6 l7 l8 l9 x H locs ls  hw hW hS (lv_sub hl [0, 1, 2, 3, 4, 5, 6, 7, 8] rfl)
    · have hw := hw.2 c1269
      refine lv_lconst (v := 0) hx hb d_Mod_readBlock_181 (by decide) ?_
      refine lv_lstore (lv' := [(10, .long 0), (0, .ref (ad 0)), (1, .int l1), (2, .int l2), (3, .int l3), (4, .long l4), (6, .int l6), (7, .int l7), (8, .int l8), (9, .int l9)]) hx hb d_Mod_readBlock_182 hl (by decide) rfl (fun ls hl => ?_)
      refine lv_iconst (v := 0) hx hb d_Mod_readBlock_184 (by decide) ?_
      refine lv_istore (lv' := [(12, .int 0), (10, .long 0), (0, .ref (ad 0)), (1, .int l1), (2, .int l2), (3, .int l3), (4, .long l4), (6, .int l6), (7, .int l7), (8, .int l8), (9, .int l9)]) hx hb d_Mod_readBlock_185 hl (by decide) rfl (fun ls hl => ?_)
      obtain ⟨n, hw⟩ := hw
      exact tl_Mod_readBlock_187 hx hb hml hown hT hK hN hA hRc hRs hRf hRl hret hrec109 hrec166 n l1 l2 l3 l4 l6 l7 l8 l9 0 0 x H locs ls  hw hW hS (lv_sub hl [2, 3, 4, 5, 6, 7, 8, 9, 10, 1, 0] rfl)
set_option maxHeartbeats 4000000 in
set_option maxRecDepth 100000 in
theorem tl_Mod_readBlock_166 {p : Program} {l : Launch} {e : Env} {R : Room} {s : State} {m : MethodId} {args : Array Value} {below : List Frame} {meth : Method} {c : Code} {cells slots : Nat} {Q : State → Prop} {dC : Nat → ClassId} {dI : Nat → Nat → Nat} {cI cB cJ cZ : ClassId} {A : Nat → Prop} {ad : Nat → Nat} {post : St → Prop} {rec109 : Int32 → Int32 → Int32 → Int64 → Int32 → Int32 → St → Prop} (hx : p.tables.exec = Jvm.exec) (hb : c.code = b_Mod_readBlock) (hml : c.maxLocals = 13) (hown : s.vm.findClass R_Mod = some m.cls) (hT : ∀ w ∈ TG, w.before args s = true) (hK : va_K (dC, dI) CL (TY cI cB cJ cZ) s) (hN : NW s) (hA : ∀ q : Nat, s.heap.size ≤ q → A q) (hRc : cells ≤ R.cells) (hRs : slots ≤ R.slots) (hRf : 1 ≤ R.frames) (hRl : 25 ≤ R.locals) (hret : ∀ (x : St) (H : Heap) (locs : List Loc) (pc : Nat) (ls : Array Slot), decode b_Mod_readBlock pc = .ok (.return_, 1) → post x → Wd dC dI cI cB cJ cZ ad stM kcM 115 A x H → va_S A s.heap H locs → W p l e R s m args below meth c H locs cells slots Q (F0 m pc ls [])) (hrec109 : ∀ (l1 : Int32) (l2 : Int32) (l3 : Int32) (l4 : Int64) (l6 : Int32) (l7 : Int32) (x : St) (H : Heap) (locs : List Loc) (ls : Array Slot), rec109 l1 l2 l3 l4 l6 l7 x → Wd dC dI cI cB cJ cZ ad stM kcM 115 A x H → va_S A s.heap H locs → lv_has ls 13 [(0, .ref (ad 0)), (1, .int l1), (2, .int l2), (3, .int l3), (4, .long l4), (6, .int l6), (7, .int l7)] → W p l e R s m args below meth c H locs cells slots Q (F0 m 109 ls [])) : ∀ n : Nat, ∀ (l1 : Int32) (l2 : Int32) (l3 : Int32) (l4 : Int64) (l6 : Int32) (l7 : Int32) (l8 : Int32) (l9 : Int32) (x : St) (H : Heap) (locs : List Loc) (ls : Array Slot), wl_Mod_readBlock_166 post rec109 n l1 l2 l3 l4 l6 l7 l8 l9 x → Wd dC dI cI cB cJ cZ ad stM kcM 115 A x H → va_S A s.heap H locs → lv_has ls 13 [(0, .ref (ad 0)), (1, .int l1), (2, .int l2), (3, .int l3), (4, .long l4), (6, .int l6), (7, .int l7), (8, .int l8), (9, .int l9)] → W p l e R s m args below meth c H locs cells slots Q (F0 m 166 ls []) := by
  intro n
  induction n with
  | zero => intro l1 l2 l3 l4 l6 l7 l8 l9 x H locs ls  hw; exact hw.elim
  | succ n ih => intro l1 l2 l3 l4 l6 l7 l8 l9 x H locs ls  hw hW hS hl; exact t_Mod_readBlock_166 hx hb hml hown hT hK hN hA hRc hRs hRf hRl hret hrec109 ih l1 l2 l3 l4 l6 l7 l8 l9 x H locs ls  hw hW hS hl
set_option maxRecDepth 100000 in
set_option maxHeartbeats 4000000 in
set_option maxRecDepth 100000 in
theorem t_Mod_readBlock_163 {p : Program} {l : Launch} {e : Env} {R : Room} {s : State} {m : MethodId} {args : Array Value} {below : List Frame} {meth : Method} {c : Code} {cells slots : Nat} {Q : State → Prop} {dC : Nat → ClassId} {dI : Nat → Nat → Nat} {cI cB cJ cZ : ClassId} {A : Nat → Prop} {ad : Nat → Nat} {post : St → Prop} {rec109 : Int32 → Int32 → Int32 → Int64 → Int32 → Int32 → St → Prop} (hx : p.tables.exec = Jvm.exec) (hb : c.code = b_Mod_readBlock) (hml : c.maxLocals = 13) (hown : s.vm.findClass R_Mod = some m.cls) (hT : ∀ w ∈ TG, w.before args s = true) (hK : va_K (dC, dI) CL (TY cI cB cJ cZ) s) (hN : NW s) (hA : ∀ q : Nat, s.heap.size ≤ q → A q) (hRc : cells ≤ R.cells) (hRs : slots ≤ R.slots) (hRf : 1 ≤ R.frames) (hRl : 25 ≤ R.locals) (hret : ∀ (x : St) (H : Heap) (locs : List Loc) (pc : Nat) (ls : Array Slot), decode b_Mod_readBlock pc = .ok (.return_, 1) → post x → Wd dC dI cI cB cJ cZ ad stM kcM 115 A x H → va_S A s.heap H locs → W p l e R s m args below meth c H locs cells slots Q (F0 m pc ls [])) (hrec109 : ∀ (l1 : Int32) (l2 : Int32) (l3 : Int32) (l4 : Int64) (l6 : Int32) (l7 : Int32) (x : St) (H : Heap) (locs : List Loc) (ls : Array Slot), rec109 l1 l2 l3 l4 l6 l7 x → Wd dC dI cI cB cJ cZ ad stM kcM 115 A x H → va_S A s.heap H locs → lv_has ls 13 [(0, .ref (ad 0)), (1, .int l1), (2, .int l2), (3, .int l3), (4, .long l4), (6, .int l6), (7, .int l7)] → W p l e R s m args below meth c H locs cells slots Q (F0 m 109 ls [])) : ∀ (l1 : Int32) (l2 : Int32) (l3 : Int32) (l4 : Int64) (l6 : Int32) (l7 : Int32) (l8 : Int32) (x : St) (H : Heap) (locs : List Loc) (ls : Array Slot), j_Mod_readBlock_163 post rec109 l1 l2 l3 l4 l6 l7 l8 x → Wd dC dI cI cB cJ cZ ad stM kcM 115 A x H → va_S A s.heap H locs → lv_has ls 13 [(0, .ref (ad 0)), (1, .int l1), (2, .int l2), (3, .int l3), (4, .long l4), (6, .int l6), (7, .int l7), (8, .int l8)] → W p l e R s m args below meth c H locs cells slots Q (F0 m 163 ls []) := by
  intro l1 l2 l3 l4 l6 l7 l8 x H locs ls  hw hW hS hl
  unfold j_Mod_readBlock_163 at hw
  refine lv_iconst (v := 0) hx hb d_Mod_readBlock_163 (by decide) ?_
  refine lv_istore (lv' := [(9, .int 0), (0, .ref (ad 0)), (1, .int l1), (2, .int l2), (3, .int l3), (4, .long l4), (6, .int l6), (7, .int l7), (8, .int l8)]) hx hb d_Mod_readBlock_164 hl (by decide) rfl (fun ls hl => ?_)
  obtain ⟨n, hw⟩ := hw
  exact tl_Mod_readBlock_166 hx hb hml hown hT hK hN hA hRc hRs hRf hRl hret hrec109 n l1 l2 l3 l4 l6 l7 l8 0 x H locs ls  hw hW hS (lv_sub hl [1, 2, 3, 4, 5, 6, 7, 8, 0] rfl)
set_option maxRecDepth 100000 in
set_option maxHeartbeats 4000000 in
set_option maxRecDepth 100000 in
theorem t_Mod_readBlock_109 {p : Program} {l : Launch} {e : Env} {R : Room} {s : State} {m : MethodId} {args : Array Value} {below : List Frame} {meth : Method} {c : Code} {cells slots : Nat} {Q : State → Prop} {dC : Nat → ClassId} {dI : Nat → Nat → Nat} {cI cB cJ cZ : ClassId} {A : Nat → Prop} {ad : Nat → Nat} {post : St → Prop} {rec109 : Int32 → Int32 → Int32 → Int64 → Int32 → Int32 → St → Prop} (hx : p.tables.exec = Jvm.exec) (hb : c.code = b_Mod_readBlock) (hml : c.maxLocals = 13) (hown : s.vm.findClass R_Mod = some m.cls) (hT : ∀ w ∈ TG, w.before args s = true) (hK : va_K (dC, dI) CL (TY cI cB cJ cZ) s) (hN : NW s) (hA : ∀ q : Nat, s.heap.size ≤ q → A q) (hRc : cells ≤ R.cells) (hRs : slots ≤ R.slots) (hRf : 1 ≤ R.frames) (hRl : 25 ≤ R.locals) (hret : ∀ (x : St) (H : Heap) (locs : List Loc) (pc : Nat) (ls : Array Slot), decode b_Mod_readBlock pc = .ok (.return_, 1) → post x → Wd dC dI cI cB cJ cZ ad stM kcM 115 A x H → va_S A s.heap H locs → W p l e R s m args below meth c H locs cells slots Q (F0 m pc ls [])) (hrec109 : ∀ (l1 : Int32) (l2 : Int32) (l3 : Int32) (l4 : Int64) (l6 : Int32) (l7 : Int32) (x : St) (H : Heap) (locs : List Loc) (ls : Array Slot), rec109 l1 l2 l3 l4 l6 l7 x → Wd dC dI cI cB cJ cZ ad stM kcM 115 A x H → va_S A s.heap H locs → lv_has ls 13 [(0, .ref (ad 0)), (1, .int l1), (2, .int l2), (3, .int l3), (4, .long l4), (6, .int l6), (7, .int l7)] → W p l e R s m args below meth c H locs cells slots Q (F0 m 109 ls [])) : ∀ (l1 : Int32) (l2 : Int32) (l3 : Int32) (l4 : Int64) (l6 : Int32) (l7 : Int32) (x : St) (H : Heap) (locs : List Loc) (ls : Array Slot), j_Mod_readBlock_109 post rec109 l1 l2 l3 l4 l6 l7 x → Wd dC dI cI cB cJ cZ ad stM kcM 115 A x H → va_S A s.heap H locs → lv_has ls 13 [(0, .ref (ad 0)), (1, .int l1), (2, .int l2), (3, .int l3), (4, .long l4), (6, .int l6), (7, .int l7)] → W p l e R s m args below meth c H locs cells slots Q (F0 m 109 ls []) := by
  intro l1 l2 l3 l4 l6 l7 x H locs ls  hw hW hS hl
  unfold j_Mod_readBlock_109 at hw
  refine lv_iload hx hb d_Mod_readBlock_109 (lv_at hl 6 rfl) ?_
  refine lv_iconst (v := 4) hx hb d_Mod_readBlock_111 (by decide) ?_
  refine lv_icmp_ge (tgt := 324) hx hb d_Mod_readBlock_112 (by decide) (fun c1270 => ?_) (fun c1270 => ?_)
  · have hw := hw.1 c1270
    exact hret x H locs 324 ls d_Mod_readBlock_324 hw hW hS
  · have hw := hw.2 c1270
    refine lv_aload_n hx hb d_Mod_readBlock_115 rfl (lv_at hl 0 rfl) ?_
    refine w_geti (k := 69) (t := 12) (C := R_Mod) (T := F_Mod) (N := 167) hx hb hT hown hK hW ko_0.1 ko_0.2 (by decide) in_Mod rfl rfl (by decide) rfl fr_Mod_69 w_9_5 d_Mod_readBlock_116 ?_
    refine lv_if_ne (tgt := 324) hx hb d_Mod_readBlock_119 (by decide) (fun c1271 => ?_) (fun c1271 => ?_)
    · have hw := hw.1 c1271
      exact hret x H locs 324 ls d_Mod_readBlock_324 hw hW hS
    · have hw := hw.2 c1271
      refine lv_iload_n hx hb d_Mod_readBlock_122 rfl (lv_at hl 1 rfl) ?_
      refine lv_bipush (v := 16) hx hb d_Mod_readBlock_123 (by decide) ?_
      refine lv_iload hx hb d_Mod_readBlock_125 (lv_at hl 6 rfl) ?_
      refine lv_imul hx hb d_Mod_readBlock_127 ?_
      refine lv_iadd hx hb d_Mod_readBlock_128 ?_
      refine lv_iload_n hx hb d_Mod_readBlock_129 rfl (lv_at hl 2 rfl) ?_
      refine lv_icmp_ge (tgt := 324) hx hb d_Mod_readBlock_130 (by decide) (fun c1272 => ?_) (fun c1272 => ?_)
      · have hw := hw.1 c1272
        exact hret x H locs 324 ls d_Mod_readBlock_324 hw hW hS
      · have hw := hw.2 c1272
        refine lv_aload_n hx hb d_Mod_readBlock_133 rfl (lv_at hl 0 rfl) ?_
        refine w_getf (q := 41) (k := 62) (t := 12) (C := R_Mod) (T := F_Mod) (N := 167) hx hb hT hown hK hW ko_0.1 ko_0.2 (by decide) in_Mod rfl rfl (by decide) rfl fr_Mod_62 w_8_238 d_Mod_readBlock_134 rfl ?_
        refine lv_iload hx hb d_Mod_readBlock_137 (lv_at hl 5 rfl) ?_
        refine lv_iload hx hb d_Mod_readBlock_139 (lv_at hl 6 rfl) ?_
        refine lv_iadd hx hb d_Mod_readBlock_141 ?_
        obtain ⟨hi, hw⟩ := hw
        refine w_iald (o := 41) hx hb hK hW ko_41.1 ko_41.2 hi d_Mod_readBlock_142 ?_
        refine lv_topi (fun v1273 ev1273 => ?_)
        have hw := hw v1273 ev1273
        refine lv_istore (lv' := [(8, .int v1273), (0, .ref (ad 0)), (1, .int l1), (2, .int l2), (3, .int l3), (4, .long l4), (6, .int l6), (7, .int l7)]) hx hb d_Mod_readBlock_143 hl (by decide) rfl (fun ls hl => ?_)
        refine lv_iload_n hx hb d_Mod_readBlock_145 rfl (lv_at hl 4 rfl) ?_
        refine lv_aload_n hx hb d_Mod_readBlock_146 rfl (lv_at hl 1 rfl) ?_
        refine w_geti (k := 67) (t := 12) (C := R_Mod) (T := F_Mod) (N := 167) hx hb hT hown hK hW ko_0.1 ko_0.2 (by decide) in_Mod rfl rfl (by decide) rfl fr_Mod_67 w_9_3 d_Mod_readBlock_147 ?_
        refine lv_isub hx hb d_Mod_readBlock_150 ?_
        refine lv_iconst (v := 2) hx hb d_Mod_readBlock_151 (by decide) ?_
        refine lv_iload hx hb d_Mod_readBlock_152 (lv_at hl 0 rfl) ?_
        refine lv_imul hx hb d_Mod_readBlock_154 ?_
        refine lv_icmp_ge (tgt := 163) hx hb d_Mod_readBlock_155 (by decide) (fun c1274 => ?_) (fun c1274 => ?_)
        · have hw := hw.1 c1274
          exact t_Mod_readBlock_163 hx hb hml hown hT hK hN hA hRc hRs hRf hRl hret hrec109 l1 l2 l3 l4 l6 l7 v1273 x H locs ls  hw hW hS (lv_sub hl [1, 2, 3, 4, 5, 6, 7, 0] rfl)
        · have hw := hw.2 c1274
          refine lv_aload_n hx hb d_Mod_readBlock_158 rfl (lv_at hl 1 rfl) ?_
          refine lv_iconst (v := 1) hx hb d_Mod_readBlock_159 (by decide) ?_
          refine w_puti (ty := .int) (k := 69) (t := 12) (C := R_Mod) (T := F_Mod) (N := 167) hx hb hT hown hK hW hS ko_0.1 ko_0.2 (by decide) in_Mod t_Mod t_Mod_ok n_Mod rfl rfl (by decide) rfl fr_Mod_69 w_9_5 (by decide +kernel) rfl rfl d_Mod_readBlock_160 (fun H locs hW hS => ?_)
          obtain ⟨x1275, ex1275⟩ : ∃ y : St, y = setI x 0 69 1 := ⟨_, rfl⟩
          rw [← ex1275] at hW
          have hw := hw x1275 ex1275
          exact t_Mod_readBlock_163 hx hb hml hown hT hK hN hA hRc hRs hRf hRl hret hrec109 l1 l2 l3 l4 l6 l7 v1273 x1275 H locs ls  hw hW hS (lv_sub hl [1, 2, 3, 4, 5, 6, 7, 0] rfl)
set_option maxHeartbeats 4000000 in
set_option maxRecDepth 100000 in
theorem tl_Mod_readBlock_109 {p : Program} {l : Launch} {e : Env} {R : Room} {s : State} {m : MethodId} {args : Array Value} {below : List Frame} {meth : Method} {c : Code} {cells slots : Nat} {Q : State → Prop} {dC : Nat → ClassId} {dI : Nat → Nat → Nat} {cI cB cJ cZ : ClassId} {A : Nat → Prop} {ad : Nat → Nat} {post : St → Prop} (hx : p.tables.exec = Jvm.exec) (hb : c.code = b_Mod_readBlock) (hml : c.maxLocals = 13) (hown : s.vm.findClass R_Mod = some m.cls) (hT : ∀ w ∈ TG, w.before args s = true) (hK : va_K (dC, dI) CL (TY cI cB cJ cZ) s) (hN : NW s) (hA : ∀ q : Nat, s.heap.size ≤ q → A q) (hRc : cells ≤ R.cells) (hRs : slots ≤ R.slots) (hRf : 1 ≤ R.frames) (hRl : 25 ≤ R.locals) (hret : ∀ (x : St) (H : Heap) (locs : List Loc) (pc : Nat) (ls : Array Slot), decode b_Mod_readBlock pc = .ok (.return_, 1) → post x → Wd dC dI cI cB cJ cZ ad stM kcM 115 A x H → va_S A s.heap H locs → W p l e R s m args below meth c H locs cells slots Q (F0 m pc ls []))  : ∀ n : Nat, ∀ (l1 : Int32) (l2 : Int32) (l3 : Int32) (l4 : Int64) (l6 : Int32) (l7 : Int32) (x : St) (H : Heap) (locs : List Loc) (ls : Array Slot), wl_Mod_readBlock_109 post n l1 l2 l3 l4 l6 l7 x → Wd dC dI cI cB cJ cZ ad stM kcM 115 A x H → va_S A s.heap H locs → lv_has ls 13 [(0, .ref (ad 0)), (1, .int l1), (2, .int l2), (3, .int l3), (4, .long l4), (6, .int l6), (7, .int l7)] → W p l e R s m args below meth c H locs cells slots Q (F0 m 109 ls []) := by
  intro n
  induction n with
  | zero => intro l1 l2 l3 l4 l6 l7 x H locs ls  hw; exact hw.elim
  | succ n ih => intro l1 l2 l3 l4 l6 l7 x H locs ls  hw hW hS hl; exact t_Mod_readBlock_109 hx hb hml hown hT hK hN hA hRc hRs hRf hRl hret  ih l1 l2 l3 l4 l6 l7 x H locs ls  hw hW hS hl
set_option maxRecDepth 100000 in
set_option maxHeartbeats 4000000 in
set_option maxRecDepth 100000 in
theorem t_Mod_readBlock_106 {p : Program} {l : Launch} {e : Env} {R : Room} {s : State} {m : MethodId} {args : Array Value} {below : List Frame} {meth : Method} {c : Code} {cells slots : Nat} {Q : State → Prop} {dC : Nat → ClassId} {dI : Nat → Nat → Nat} {cI cB cJ cZ : ClassId} {A : Nat → Prop} {ad : Nat → Nat} {post : St → Prop} (hx : p.tables.exec = Jvm.exec) (hb : c.code = b_Mod_readBlock) (hml : c.maxLocals = 13) (hown : s.vm.findClass R_Mod = some m.cls) (hT : ∀ w ∈ TG, w.before args s = true) (hK : va_K (dC, dI) CL (TY cI cB cJ cZ) s) (hN : NW s) (hA : ∀ q : Nat, s.heap.size ≤ q → A q) (hRc : cells ≤ R.cells) (hRs : slots ≤ R.slots) (hRf : 1 ≤ R.frames) (hRl : 25 ≤ R.locals) (hret : ∀ (x : St) (H : Heap) (locs : List Loc) (pc : Nat) (ls : Array Slot), decode b_Mod_readBlock pc = .ok (.return_, 1) → post x → Wd dC dI cI cB cJ cZ ad stM kcM 115 A x H → va_S A s.heap H locs → W p l e R s m args below meth c H locs cells slots Q (F0 m pc ls []))  : ∀ (l1 : Int32) (l2 : Int32) (l3 : Int32) (l4 : Int64) (l6 : Int32) (l7 : Int32) (x : St) (H : Heap) (locs : List Loc) (ls : Array Slot), j_Mod_readBlock_106 post l1 l2 l3 l4 l6 l7 x → Wd dC dI cI cB cJ cZ ad stM kcM 115 A x H → va_S A s.heap H locs → lv_has ls 13 [(0, .ref (ad 0)), (1, .int l1), (2, .int l2), (3, .int l3), (4, .long l4), (6, .int l6), (7, .int l7)] → W p l e R s m args below meth c H locs cells slots Q (F0 m 106 ls []) := by
  intro l1 l2 l3 l4 l6 l7 x H locs ls  hw hW hS hl
  unfold j_Mod_readBlock_106 at hw
  refine lv_iconst (v := 0) hx hb d_Mod_readBlock_106 (by decide) ?_
  refine lv_istore (lv' := [(7, .int 0), (0, .ref (ad 0)), (1, .int l1), (2, .int l2), (3, .int l3), (4, .long l4), (6, .int l6)]) hx hb d_Mod_readBlock_107 hl (by decide) rfl (fun ls hl => ?_)
  obtain ⟨n, hw⟩ := hw
  exact tl_Mod_readBlock_109 hx hb hml hown hT hK hN hA hRc hRs hRf hRl hret  n l1 l2 l3 l4 l6 0 x H locs ls  hw hW hS (lv_sub hl [1, 2, 3, 4, 5, 6, 0] rfl)
set_option maxRecDepth 100000 in
set_option maxHeartbeats 4000000 in
set_option maxRecDepth 100000 in
theorem t_Mod_readBlock_90 {p : Program} {l : Launch} {e : Env} {R : Room} {s : State} {m : MethodId} {args : Array Value} {below : List Frame} {meth : Method} {c : Code} {cells slots : Nat} {Q : State → Prop} {dC : Nat → ClassId} {dI : Nat → Nat → Nat} {cI cB cJ cZ : ClassId} {A : Nat → Prop} {ad : Nat → Nat} {post : St → Prop} {rec19 : Int32 → Int32 → Int32 → Int64 → Int32 → Int32 → St → Prop} (hx : p.tables.exec = Jvm.exec) (hb : c.code = b_Mod_readBlock) (hml : c.maxLocals = 13) (hown : s.vm.findClass R_Mod = some m.cls) (hT : ∀ w ∈ TG, w.before args s = true) (hK : va_K (dC, dI) CL (TY cI cB cJ cZ) s) (hN : NW s) (hA : ∀ q : Nat, s.heap.size ≤ q → A q) (hRc : cells ≤ R.cells) (hRs : slots ≤ R.slots) (hRf : 1 ≤ R.frames) (hRl : 25 ≤ R.locals) (hret : ∀ (x : St) (H : Heap) (locs : List Loc) (pc : Nat) (ls : Array Slot), decode b_Mod_readBlock pc = .ok (.return_, 1) → post x → Wd dC dI cI cB cJ cZ ad stM kcM 115 A x H → va_S A s.heap H locs → W p l e R s m args below meth c H locs cells slots Q (F0 m pc ls [])) (hrec19 : ∀ (l1 : Int32) (l2 : Int32) (l3 : Int32) (l4 : Int64) (l6 : Int32) (l7 : Int32) (x : St) (H : Heap) (locs : List Loc) (ls : Array Slot), rec19 l1 l2 l3 l4 l6 l7 x → Wd dC dI cI cB cJ cZ ad stM kcM 115 A x H → va_S A s.heap H locs → lv_has ls 13 [(0, .ref (ad 0)), (1, .int l1), (2, .int l2), (3, .int l3), (4, .long l4), (6, .int l6), (7, .int l7)] → W p l e R s m args below meth c H locs cells slots Q (F0 m 19 ls [])) : ∀ (l1 : Int32) (l2 : Int32) (l3 : Int32) (l4 : Int64) (l6 : Int32) (l7 : Int32) (x : St) (H : Heap) (locs : List Loc) (ls : Array Slot), j_Mod_readBlock_90 post rec19 l1 l2 l3 l4 l6 l7 x → Wd dC dI cI cB cJ cZ ad stM kcM 115 A x H → va_S A s.heap H locs → lv_has ls 13 [(0, .ref (ad 0)), (1, .int l1), (2, .int l2), (3, .int l3), (4, .long l4), (6, .int l6), (7, .int l7)] → W p l e R s m args below meth c H locs cells slots Q (F0 m 90 ls []) := by
  intro l1 l2 l3 l4 l6 l7 x H locs ls  hw hW hS hl
  unfold j_Mod_readBlock_90 at hw
  refine lv_aload_n hx hb d_Mod_readBlock_90 rfl (lv_at hl 0 rfl) ?_
  refine lv_dup hx hb d_Mod_readBlock_91 rfl ?_
  refine w_geti (k := 67) (t := 12) (C := R_Mod) (T := F_Mod) (N := 167) hx hb hT hown hK hW ko_0.1 ko_0.2 (by decide) in_Mod rfl rfl (by decide) rfl fr_Mod_67 w_9_3 d_Mod_readBlock_92 ?_
  refine lv_iconst (v := 1) hx hb d_Mod_readBlock_95 (by decide) ?_
  refine lv_iadd hx hb d_Mod_readBlock_96 ?_
  refine w_puti (ty := .int) (k := 67) (t := 12) (C := R_Mod) (T := F_Mod) (N := 167) hx hb hT hown hK hW hS ko_0.1 ko_0.2 (by decide) in_Mod t_Mod t_Mod_ok n_Mod rfl rfl (by decide) rfl fr_Mod_67 w_9_3 (by decide +kernel) rfl rfl d_Mod_readBlock_97 (fun H locs hW hS => ?_)
  obtain ⟨x1276, ex1276⟩ : ∃ y : St, y = setI x 0 67 ((fI x 0 67) + 1) := ⟨_, rfl⟩
  rw [← ex1276] at hW
  have hw := hw x1276 ex1276
  refine lv_iinc (v := (l7 + 1)) (lv' := [(7, .int (l7 + 1)), (0, .ref (ad 0)), (1, .int l1), (2, .int l2), (3, .int l3), (4, .long l4), (6, .int l6)]) hx hb d_Mod_readBlock_100 hl (k := 6) rfl rfl (by decide) rfl (fun ls hl => ?_)
  refine lv_goto (tgt := 19) hx hb d_Mod_readBlock_103 (by decide) ?_
  exact hrec19 l1 l2 l3 l4 l6 (l7 + 1) x1276 H locs ls  hw hW hS (lv_sub hl [1, 2, 3, 4, 5, 6, 0] rfl)
set_option maxRecDepth 100000 in
set_option maxHeartbeats 4000000 in
set_option maxRecDepth 100000 in
theorem t_Mod_readBlock_85 {p : Program} {l : Launch} {e : Env} {R : Room} {s : State} {m : MethodId} {args : Array Value} {below : List Frame} {meth : Method} {c : Code} {cells slots : Nat} {Q : State → Prop} {dC : Nat → ClassId} {dI : Nat → Nat → Nat} {cI cB cJ cZ : ClassId} {A : Nat → Prop} {ad : Nat → Nat} {post : St → Prop} {rec19 : Int32 → Int32 → Int32 → Int64 → Int32 → Int32 → St → Prop} (hx : p.tables.exec = Jvm.exec) (hb : c.code = b_Mod_readBlock) (hml : c.maxLocals = 13) (hown : s.vm.findClass R_Mod = some m.cls) (hT : ∀ w ∈ TG, w.before args s = true) (hK : va_K (dC, dI) CL (TY cI cB cJ cZ) s) (hN : NW s) (hA : ∀ q : Nat, s.heap.size ≤ q → A q) (hRc : cells ≤ R.cells) (hRs : slots ≤ R.slots) (hRf : 1 ≤ R.frames) (hRl : 25 ≤ R.locals) (hret : ∀ (x : St) (H : Heap) (locs : List Loc) (pc : Nat) (ls : Array Slot), decode b_Mod_readBlock pc = .ok (.return_, 1) → post x → Wd dC dI cI cB cJ cZ ad stM kcM 115 A x H → va_S A s.heap H locs → W p l e R s m args below meth c H locs cells slots Q (F0 m pc ls [])) (hrec19 : ∀ (l1 : Int32) (l2 : Int32) (l3 : Int32) (l4 : Int64) (l6 : Int32) (l7 : Int32) (x : St) (H : Heap) (locs : List Loc) (ls : Array Slot), rec19 l1 l2 l3 l4 l6 l7 x → Wd dC dI cI cB cJ cZ ad stM kcM 115 A x H → va_S A s.heap H locs → lv_has ls 13 [(0, .ref (ad 0)), (1, .int l1), (2, .int l2), (3, .int l3), (4, .long l4), (6, .int l6), (7, .int l7)] → W p l e R s m args below meth c H locs cells slots Q (F0 m 19 ls [])) : ∀ (l1 : Int32) (l2 : Int32) (l3 : Int32) (l4 : Int64) (l6 : Int32) (l7 : Int32) (x : St) (H : Heap) (locs : List Loc) (ls : Array Slot), j_Mod_readBlock_85 post rec19 l1 l2 l3 l4 l6 l7 x → Wd dC dI cI cB cJ cZ ad stM kcM 115 A x H → va_S A s.heap H locs → lv_has ls 13 [(0, .ref (ad 0)), (1, .int l1), (2, .int l2), (3, .int l3), (4, .long l4), (6, .int l6), (7, .int l7)] → W p l e R s m args below meth c H locs cells slots Q (F0 m 85 ls []) := by
  intro l1 l2 l3 l4 l6 l7 x H locs ls  hw hW hS hl
  unfold j_Mod_readBlock_85 at hw
  refine lv_aload_n hx hb d_Mod_readBlock_85 rfl (lv_at hl 0 rfl) ?_
  refine lv_iconst (v := 5) hx hb d_Mod_readBlock_86 (by decide) ?_
  refine w_puti (ty := .int) (k := 69) (t := 12) (C := R_Mod) (T := F_Mod) (N := 167) hx hb hT hown hK hW hS ko_0.1 ko_0.2 (by decide) in_Mod t_Mod t_Mod_ok n_Mod rfl rfl (by decide) rfl fr_Mod_69 w_9_5 (by decide +kernel) rfl rfl d_Mod_readBlock_87 (fun H locs hW hS => ?_)
  obtain ⟨x1277, ex1277⟩ : ∃ y : St, y = setI x 0 69 5 := ⟨_, rfl⟩
  rw [← ex1277] at hW
  have hw := hw x1277 ex1277
  exact t_Mod_readBlock_90 hx hb hml hown hT hK hN hA hRc hRs hRf hRl hret hrec19 l1 l2 l3 l4 l6 l7 x1277 H locs ls  hw hW hS (lv_sub hl [0, 1, 2, 3, 4, 5, 6] rfl)
set_option maxRecDepth 100000 in
set_option maxHeartbeats 4000000 in
set_option maxRecDepth 100000 in
theorem t_Mod_readBlock_19 {p : Program} {l : Launch} {e : Env} {R : Room} {s : State} {m : MethodId} {args : Array Value} {below : List Frame} {meth : Method} {c : Code} {cells slots : Nat} {Q : State → Prop} {dC : Nat → ClassId} {dI : Nat → Nat → Nat} {cI cB cJ cZ : ClassId} {A : Nat → Prop} {ad : Nat → Nat} {post : St → Prop} {rec19 : Int32 → Int32 → Int32 → Int64 → Int32 → Int32 → St → Prop} (hx : p.tables.exec = Jvm.exec) (hb : c.code = b_Mod_readBlock) (hml : c.maxLocals = 13) (hown : s.vm.findClass R_Mod = some m.cls) (hT : ∀ w ∈ TG, w.before args s = true) (hK : va_K (dC, dI) CL (TY cI cB cJ cZ) s) (hN : NW s) (hA : ∀ q : Nat, s.heap.size ≤ q → A q) (hRc : cells ≤ R.cells) (hRs : slots ≤ R.slots) (hRf : 1 ≤ R.frames) (hRl : 25 ≤ R.locals) (hret : ∀ (x : St) (H : Heap) (locs : List Loc) (pc : Nat) (ls : Array Slot), decode b_Mod_readBlock pc = .ok (.return_, 1) → post x → Wd dC dI cI cB cJ cZ ad stM kcM 115 A x H → va_S A s.heap H locs → W p l e R s m args below meth c H locs cells slots Q (F0 m pc ls [])) (hrec19 : ∀ (l1 : Int32) (l2 : Int32) (l3 : Int32) (l4 : Int64) (l6 : Int32) (l7 : Int32) (x : St) (H : Heap) (locs : List Loc) (ls : Array Slot), rec19 l1 l2 l3 l4 l6 l7 x → Wd dC dI cI cB cJ cZ ad stM kcM 115 A x H → va_S A s.heap H locs → lv_has ls 13 [(0, .ref (ad 0)), (1, .int l1), (2, .int l2), (3, .int l3), (4, .long l4), (6, .int l6), (7, .int l7)] → W p l e R s m args below meth c H locs cells slots Q (F0 m 19 ls [])) : ∀ (l1 : Int32) (l2 : Int32) (l3 : Int32) (l4 : Int64) (l6 : Int32) (l7 : Int32) (x : St) (H : Heap) (locs : List Loc) (ls : Array Slot), j_Mod_readBlock_19 post rec19 l1 l2 l3 l4 l6 l7 x → Wd dC dI cI cB cJ cZ ad stM kcM 115 A x H → va_S A s.heap H locs → lv_has ls 13 [(0, .ref (ad 0)), (1, .int l1), (2, .int l2), (3, .int l3), (4, .long l4), (6, .int l6), (7, .int l7)] → W p l e R s m args below meth c H locs cells slots Q (F0 m 19 ls []) := by
  intro l1 l2 l3 l4 l6 l7 x H locs ls  hw hW hS hl
  unfold j_Mod_readBlock_19 at hw
  refine lv_iload hx hb d_Mod_readBlock_19 (lv_at hl 6 rfl) ?_
  refine lv_iconst (v := 4) hx hb d_Mod_readBlock_21 (by decide) ?_
  refine lv_icmp_ge (tgt := 106) hx hb d_Mod_readBlock_22 (by decide) (fun c1278 => ?_) (fun c1278 => ?_)
  · have hw := hw.1 c1278
    exact t_Mod_readBlock_106 hx hb hml hown hT hK hN hA hRc hRs hRf hRl hret  l1 l2 l3 l4 l6 l7 x H locs ls  hw hW hS (lv_sub hl [0, 1, 2, 3, 4, 5, 6] rfl)
  · have hw := hw.2 c1278
    refine lv_aload_n hx hb d_Mod_readBlock_25 rfl (lv_at hl 0 rfl) ?_
    refine w_geti (k := 69) (t := 12) (C := R_Mod) (T := F_Mod) (N := 167) hx hb hT hown hK hW ko_0.1 ko_0.2 (by decide) in_Mod rfl rfl (by decide) rfl fr_Mod_69 w_9_5 d_Mod_readBlock_26 ?_
    refine lv_if_ne (tgt := 106) hx hb d_Mod_readBlock_29 (by decide) (fun c1279 => ?_) (fun c1279 => ?_)
    · have hw := hw.1 c1279
      exact t_Mod_readBlock_106 hx hb hml hown hT hK hN hA hRc hRs hRf hRl hret  l1 l2 l3 l4 l6 l7 x H locs ls  hw hW hS (lv_sub hl [0, 1, 2, 3, 4, 5, 6] rfl)
    · have hw := hw.2 c1279
      refine lv_aload_n hx hb d_Mod_readBlock_32 rfl (lv_at hl 0 rfl) ?_
      refine w_geti (k := 67) (t := 12) (C := R_Mod) (T := F_Mod) (N := 167) hx hb hT hown hK hW ko_0.1 ko_0.2 (by decide) in_Mod rfl rfl (by decide) rfl fr_Mod_67 w_9_3 d_Mod_readBlock_33 ?_
      refine lv_iload_n hx hb d_Mod_readBlock_36 rfl (lv_at hl 3 rfl) ?_
      refine lv_icmp_lt (tgt := 48) hx hb d_Mod_readBlock_37 (by decide) (fun c1280 => ?_) (fun c1280 => ?_)
      · have hw := hw.1 c1280
        refine lv_aload_n hx hb d_Mod_readBlock_48 rfl (lv_at hl 0 rfl) ?_
        refine w_getf (q := 41) (k := 62) (t := 12) (C := R_Mod) (T := F_Mod) (N := 167) hx hb hT hown hK hW ko_0.1 ko_0.2 (by decide) in_Mod rfl rfl (by decide) rfl fr_Mod_62 w_8_238 d_Mod_readBlock_49 rfl ?_
        refine lv_aload_n hx hb d_Mod_readBlock_52 rfl (lv_at hl 0 rfl) ?_
        refine w_geti (k := 67) (t := 12) (C := R_Mod) (T := F_Mod) (N := 167) hx hb hT hown hK hW ko_0.1 ko_0.2 (by decide) in_Mod rfl rfl (by decide) rfl fr_Mod_67 w_9_3 d_Mod_readBlock_53 ?_
        obtain ⟨hi, hw⟩ := hw
        refine w_iald (o := 41) hx hb hK hW ko_41.1 ko_41.2 hi d_Mod_readBlock_56 ?_
        refine lv_bipush (v := 64) hx hb d_Mod_readBlock_57 (by decide) ?_
        refine lv_icmp_gt (tgt := 85) hx hb d_Mod_readBlock_59 (by decide) (fun c1281 => ?_) (fun c1281 => ?_)
        · have hw := hw.1 c1281
          exact t_Mod_readBlock_85 hx hb hml hown hT hK hN hA hRc hRs hRf hRl hret hrec19 l1 l2 l3 l4 l6 l7 x H locs ls  hw hW hS (lv_sub hl [0, 1, 2, 3, 4, 5, 6] rfl)
        · have hw := hw.2 c1281
          refine lv_aload_n hx hb d_Mod_readBlock_62 rfl (lv_at hl 0 rfl) ?_
          refine w_getf (q := 41) (k := 62) (t := 12) (C := R_Mod) (T := F_Mod) (N := 167) hx hb hT hown hK hW ko_0.1 ko_0.2 (by decide) in_Mod rfl rfl (by decide) rfl fr_Mod_62 w_8_238 d_Mod_readBlock_63 rfl ?_
          refine lv_aload_n hx hb d_Mod_readBlock_66 rfl (lv_at hl 0 rfl) ?_
          refine w_geti (k := 67) (t := 12) (C := R_Mod) (T := F_Mod) (N := 167) hx hb hT hown hK hW ko_0.1 ko_0.2 (by decide) in_Mod rfl rfl (by decide) rfl fr_Mod_67 w_9_3 d_Mod_readBlock_67 ?_
          obtain ⟨hi, hw⟩ := hw
          refine w_iald (o := 41) hx hb hK hW ko_41.1 ko_41.2 hi d_Mod_readBlock_70 ?_
          refine lv_if_le (tgt := 90) hx hb d_Mod_readBlock_71 (by decide) (fun c1282 => ?_) (fun c1282 => ?_)
          · have hw := hw.1 c1282
            exact t_Mod_readBlock_90 hx hb hml hown hT hK hN hA hRc hRs hRf hRl hret hrec19 l1 l2 l3 l4 l6 l7 x H locs ls  hw hW hS (lv_sub hl [0, 1, 2, 3, 4, 5, 6] rfl)
          · have hw := hw.2 c1282
            refine lv_iload_n hx hb d_Mod_readBlock_74 rfl (lv_at hl 1 rfl) ?_
            refine lv_bipush (v := 16) hx hb d_Mod_readBlock_75 (by decide) ?_
            refine lv_iload hx hb d_Mod_readBlock_77 (lv_at hl 6 rfl) ?_
            refine lv_imul hx hb d_Mod_readBlock_79 ?_
            refine lv_iadd hx hb d_Mod_readBlock_80 ?_
            refine lv_iload_n hx hb d_Mod_readBlock_81 rfl (lv_at hl 2 rfl) ?_
            refine lv_icmp_lt (tgt := 90) hx hb d_Mod_readBlock_82 (by decide) (fun c1283 => ?_) (fun c1283 => ?_)
            · have hw := hw.1 c1283
              exact t_Mod_readBlock_90 hx hb hml hown hT hK hN hA hRc hRs hRf hRl hret hrec19 l1 l2 l3 l4 l6 l7 x H locs ls  hw hW hS (lv_sub hl [0, 1, 2, 3, 4, 5, 6] rfl)
            · have hw := hw.2 c1283
              exact t_Mod_readBlock_85 hx hb hml hown hT hK hN hA hRc hRs hRf hRl hret hrec19 l1 l2 l3 l4 l6 l7 x H locs ls  hw hW hS (lv_sub hl [0, 1, 2, 3, 4, 5, 6] rfl)
      · have hw := hw.2 c1280
        refine lv_aload_n hx hb d_Mod_readBlock_40 rfl (lv_at hl 0 rfl) ?_
        refine lv_iconst (v := 1) hx hb d_Mod_readBlock_41 (by decide) ?_
        refine w_puti (ty := .int) (k := 69) (t := 12) (C := R_Mod) (T := F_Mod) (N := 167) hx hb hT hown hK hW hS ko_0.1 ko_0.2 (by decide) in_Mod t_Mod t_Mod_ok n_Mod rfl rfl (by decide) rfl fr_Mod_69 w_9_5 (by decide +kernel) rfl rfl d_Mod_readBlock_42 (fun H locs hW hS => ?_)
        obtain ⟨x1284, ex1284⟩ : ∃ y : St, y = setI x 0 69 1 := ⟨_, rfl⟩
        rw [← ex1284] at hW
        have hw := hw x1284 ex1284
        refine lv_goto (tgt := 90) hx hb d_Mod_readBlock_45 (by decide) ?_
        exact t_Mod_readBlock_90 hx hb hml hown hT hK hN hA hRc hRs hRf hRl hret hrec19 l1 l2 l3 l4 l6 l7 x1284 H locs ls  hw hW hS (lv_sub hl [0, 1, 2, 3, 4, 5, 6] rfl)
set_option maxHeartbeats 4000000 in
set_option maxRecDepth 100000 in
theorem tl_Mod_readBlock_19 {p : Program} {l : Launch} {e : Env} {R : Room} {s : State} {m : MethodId} {args : Array Value} {below : List Frame} {meth : Method} {c : Code} {cells slots : Nat} {Q : State → Prop} {dC : Nat → ClassId} {dI : Nat → Nat → Nat} {cI cB cJ cZ : ClassId} {A : Nat → Prop} {ad : Nat → Nat} {post : St → Prop} (hx : p.tables.exec = Jvm.exec) (hb : c.code = b_Mod_readBlock) (hml : c.maxLocals = 13) (hown : s.vm.findClass R_Mod = some m.cls) (hT : ∀ w ∈ TG, w.before args s = true) (hK : va_K (dC, dI) CL (TY cI cB cJ cZ) s) (hN : NW s) (hA : ∀ q : Nat, s.heap.size ≤ q → A q) (hRc : cells ≤ R.cells) (hRs : slots ≤ R.slots) (hRf : 1 ≤ R.frames) (hRl : 25 ≤ R.locals) (hret : ∀ (x : St) (H : Heap) (locs : List Loc) (pc : Nat) (ls : Array Slot), decode b_Mod_readBlock pc = .ok (.return_, 1) → post x → Wd dC dI cI cB cJ cZ ad stM kcM 115 A x H → va_S A s.heap H locs → W p l e R s m args below meth c H locs cells slots Q (F0 m pc ls []))  : ∀ n : Nat, ∀ (l1 : Int32) (l2 : Int32) (l3 : Int32) (l4 : Int64) (l6 : Int32) (l7 : Int32) (x : St) (H : Heap) (locs : List Loc) (ls : Array Slot), wl_Mod_readBlock_19 post n l1 l2 l3 l4 l6 l7 x → Wd dC dI cI cB cJ cZ ad stM kcM 115 A x H → va_S A s.heap H locs → lv_has ls 13 [(0, .ref (ad 0)), (1, .int l1), (2, .int l2), (3, .int l3), (4, .long l4), (6, .int l6), (7, .int l7)] → W p l e R s m args below meth c H locs cells slots Q (F0 m 19 ls []) := by
  intro n
  induction n with
  | zero => intro l1 l2 l3 l4 l6 l7 x H locs ls  hw; exact hw.elim
  | succ n ih => intro l1 l2 l3 l4 l6 l7 x H locs ls  hw hW hS hl; exact t_Mod_readBlock_19 hx hb hml hown hT hK hN hA hRc hRs hRf hRl hret  ih l1 l2 l3 l4 l6 l7 x H locs ls  hw hW hS hl
set_option maxRecDepth 100000 in
set_option maxHeartbeats 4000000 in
set_option maxRecDepth 100000 in
theorem t_Mod_readBlock_e {p : Program} {l : Launch} {e : Env} {R : Room} {s : State} {m : MethodId} {args : Array Value} {below : List Frame} {meth : Method} {c : Code} {cells slots : Nat} {Q : State → Prop} {dC : Nat → ClassId} {dI : Nat → Nat → Nat} {cI cB cJ cZ : ClassId} {A : Nat → Prop} {ad : Nat → Nat} {post : St → Prop} (hx : p.tables.exec = Jvm.exec) (hb : c.code = b_Mod_readBlock) (hml : c.maxLocals = 13) (hown : s.vm.findClass R_Mod = some m.cls) (hT : ∀ w ∈ TG, w.before args s = true) (hK : va_K (dC, dI) CL (TY cI cB cJ cZ) s) (hN : NW s) (hA : ∀ q : Nat, s.heap.size ≤ q → A q) (hRc : cells ≤ R.cells) (hRs : slots ≤ R.slots) (hRf : 1 ≤ R.frames) (hRl : 25 ≤ R.locals) (hret : ∀ (x : St) (H : Heap) (locs : List Loc) (pc : Nat) (ls : Array Slot), decode b_Mod_readBlock pc = .ok (.return_, 1) → post x → Wd dC dI cI cB cJ cZ ad stM kcM 115 A x H → va_S A s.heap H locs → W p l e R s m args below meth c H locs cells slots Q (F0 m pc ls [])) : ∀ (l1 : Int32) (l2 : Int32) (l3 : Int32) (x : St) (H : Heap) (locs : List Loc) (ls : Array Slot), wp_Mod_readBlock post l1 l2 l3 x → Wd dC dI cI cB cJ cZ ad stM kcM 115 A x H → va_S A s.heap H locs → lv_has ls 13 [(0, .ref (ad 0)), (1, .int l1), (2, .int l2), (3, .int l3)] → W p l e R s m args below meth c H locs cells slots Q (F0 m 0 ls []) := by
  intro l1 l2 l3 x H locs ls  hw hW hS hl
  unfold wp_Mod_readBlock at hw
  refine lv_aload_n hx hb d_Mod_readBlock_0 rfl (lv_at hl 0 rfl) ?_
  refine lv_iload_n hx hb d_Mod_readBlock_1 rfl (lv_at hl 3 rfl) ?_
  have hF := hW.free hS hA
  refine va_calll (va_runV (C := R_Mod) (As := [.int l3]) (rest := []) ⟨hx, hb, hml, hown, hT⟩ (k_Mod_varint l dC dI cI cB cJ cZ ad H.size l3 x  hw) ⟨callB_of 1 hT (gwt_in w_12_124) rfl rfl rfl (hT _ w_1_15) (hT _ w_12_121) (by decide +kernel) ⟨Nat.le_trans (Nat.le_of_ble_eq_true rfl) hRf, Nat.le_trans (Nat.le_of_ble_eq_true rfl) hRl⟩, hT _ w_12_123, hT _ ws_187⟩ ⟨PW.blind, va_recv hK hW.1 (ci := 12) (q0 := 0) rfl (pic_obj ko_0.1 ko_0.2 (by decide)), PW.at _ hW hK hN⟩ rfl rfl hl.1 rfl (lv_room (Nat.le_of_ble_eq_true rfl)) d_Mod_readBlock_2 ⟨hRc, hRs⟩) hS (fun q _ h => hF q h) hF (fun r1286 x1285 t H locs ht hvm hw hB hz1 hk1 hS => ?_)
  have hW := Wd.back hB ht hF
  clear hB ht hF hz1 hk1 hvm
  have hF := hW.free hS hA
  refine va_calll (va_runS (As := [.long r1286]) (rest := []) ⟨hx, hb, hml, hown, hT⟩ (k_Mod_unzigzag l dC dI cI cB cJ cZ ad H.size r1286 x1285  hw) ⟨callB_of 1 hT (gwt_in w_12_147) rfl rfl rfl (hT _ w_1_15) (hT _ w_12_145) (by decide +kernel) ⟨Nat.le_trans (Nat.le_of_ble_eq_true rfl) hRf, Nat.le_trans (Nat.le_of_ble_eq_true rfl) hRl⟩, hT _ w_12_146⟩ ⟨PW.blind, PW.at _ hW hK hN⟩ rfl rfl hl.1 rfl (lv_room (Nat.le_of_ble_eq_true rfl)) d_Mod_readBlock_5 ⟨hRc, hRs⟩) hS (fun q _ h => hF q h) hF (fun r1288 x1287 t H locs ht hvm hw hB hz1 hk1 hS => ?_)
  have hW := Wd.back hB ht hF
  clear hB ht hF hz1 hk1 hvm
  refine lv_lstore (lv' := [(4, .long r1288), (0, .ref (ad 0)), (1, .int l1), (2, .int l2), (3, .int l3)]) hx hb d_Mod_readBlock_8 hl (by decide) rfl (fun ls hl => ?_)
  refine lv_aload_n hx hb d_Mod_readBlock_10 rfl (lv_at hl 1 rfl) ?_
  refine w_geti (k := 67) (t := 12) (C := R_Mod) (T := F_Mod) (N := 167) hx hb hT hown hK hW ko_0.1 ko_0.2 (by decide) in_Mod rfl rfl (by decide) rfl fr_Mod_67 w_9_3 d_Mod_readBlock_11 ?_
  refine lv_topi (fun v1289 ev1289 => ?_)
  have hw := hw v1289 ev1289
  refine lv_istore (lv' := [(6, .int v1289), (4, .long r1288), (0, .ref (ad 0)), (1, .int l1), (2, .int l2), (3, .int l3)]) hx hb d_Mod_readBlock_14 hl (by decide) rfl (fun ls hl => ?_)
  refine lv_iconst (v := 0) hx hb d_Mod_readBlock_16 (by decide) ?_
  refine lv_istore (lv' := [(7, .int 0), (6, .int v1289), (4, .long r1288), (0, .ref (ad 0)), (1, .int l1), (2, .int l2), (3, .int l3)]) hx hb d_Mod_readBlock_17 hl (by decide) rfl (fun ls hl => ?_)
  obtain ⟨n, hw⟩ := hw
  exact tl_Mod_readBlock_19 hx hb hml hown hT hK hN hA hRc hRs hRf hRl hret  n l1 l2 l3 r1288 v1289 0 x1287 H locs ls  hw hW hS (lv_sub hl [3, 4, 5, 6, 2, 1, 0] rfl)
set_option maxHeartbeats 4000000 in
set_option maxRecDepth 100000 in
theorem k_Mod_readBlock (l : Launch) (dC : Nat → ClassId) (dI : Nat → Nat → Nat) (cI cB cJ cZ : ClassId) (ad : Nat → Nat) (sz : Nat) (l1 : Int32) (l2 : Int32) (l3 : Int32) (x : St) {post : St → Prop} (hw : wp_Mod_readBlock post l1 l2 l3 x) : Met l y_Mod_readBlock (wsOf y_Mod_readBlock b_Mod_readBlock 13 (none)) ({ frames := 1, cells := 0, slots := 0, locals := 25 }) (va_Pc [.ref (ad 0), .int l1, .int l2, .int l3] (PW dC dI cI cB cJ cZ ad stM kcM 115 sz x)) (va_Qv (fun (y : St) => post y) (fun y t => Wd dC dI cI cB cJ cZ ad stM kcM 115 (va_A (pic ad stM kcM 115 cI cB cJ cZ x) sz) y t.heap) (va_A (pic ad stM kcM 115 cI cB cJ cZ x) sz)) 0 0 (va_A (pic ad stM kcM 115 cI cB cJ cZ x) sz) := by
  refine Met.ofW (cc := b_Mod_readBlock) (maxL := 13) (ret := none) (by decide) rfl ?_
  intro p e s m args below meth c s₁ B hml hv
  obtain ⟨rfl, hsz, hW0, hK, hN⟩ := hv
  have hx := B.exec
  have hb := B.bytes
  have hr := B.returns
  have hts := atoms_spec B.pre
  have hT : ∀ w ∈ TG, w.before _ s = true := fun w h => hts w (List.mem_cons_of_mem _ h)
  have hown : s.vm.findClass R_Mod = some m.cls := findClass_of_methodNamed B.named
  have hlocks := B.notSynchronized
  subst hsz
  have hW : Wd dC dI cI cB cJ cZ ad stM kcM 115 (va_A (pic ad stM kcM 115 cI cB cJ cZ x) s.heap.size) x s.heap := ⟨hW0.1, hW0.2.1.self (sz := s.heap.size), hW0.2.2⟩
  generalize hAe : va_A (pic ad stM kcM 115 cI cB cJ cZ x) s.heap.size = A at hW ⊢
  have hA : ∀ q : Nat, s.heap.size ≤ q → A q := fun q h => by rw [← hAe]; exact Or.inr h
  have hS : va_S A s.heap s.heap [] := va_S.rf
  have hl := lv_entry ([.ref (ad 0), .int l1, .int l2, .int l3]) (n := 13) (Nat.le_of_ble_eq_true rfl)
  rw [lg_entry_eq]
  generalize (lg_sl ([.ref (ad 0), .int l1, .int l2, .int l3]) ++ List.replicate (13 - (lg_sl ([.ref (ad 0), .int l1, .int l2, .int l3])).length) Slot.unset).toArray = ls at hl ⊢
  have hl : lv_has ls 13 [(0, .ref (ad 0)), (1, .int l1), (2, .int l2), (3, .int l3)] := hl
  exact t_Mod_readBlock_e hx hb hml hown hT hK hN hA (Nat.le_refl 0) (Nat.le_refl 0) (Nat.le_refl 1) (Nat.le_refl 25) (fun x H locs pc ls hd hp hW hS => W.vret hx hb hr (fun t ht hM => ⟨⟨x, rfl, hp, Wd.back hW ht.symm (fun _ z => z)⟩, hS.F ht⟩) hS.2.2 hd hlocks)  l1 l2 l3 x _ _ ls  hw hW hS hl
end
