theorem fr_Mod_1 : F_Mod 1 = (R_Mod, "tape", "[I", true) := rfl
theorem fr_Mod_10 : F_Mod 10 = (R_Mod, "letters", "[I", true) := rfl
theorem fr_Mod_100 : F_Mod 100 = (R_Mod, "chunkLeast", "[I", true) := rfl
theorem fr_Mod_101 : F_Mod 101 = (R_Mod, "chunkGreatest", "[I", true) := rfl
theorem fr_Mod_102 : F_Mod 102 = (R_Mod, "chunkFirst", "[I", true) := rfl
theorem fr_Mod_103 : F_Mod 103 = (R_Mod, "pageColumn", "[I", true) := rfl
theorem fr_Mod_104 : F_Mod 104 = (R_Mod, "pageRow", "[I", true) := rfl
theorem fr_Mod_105 : F_Mod 105 = (R_Mod, "pageRows", "[I", true) := rfl
theorem fr_Mod_106 : F_Mod 106 = (R_Mod, "pageMany", "[I", true) := rfl
theorem fr_Mod_107 : F_Mod 107 = (R_Mod, "pageMissing", "[I", true) := rfl
theorem fr_Mod_108 : F_Mod 108 = (R_Mod, "pageLeast", "[I", true) := rfl
theorem fr_Mod_109 : F_Mod 109 = (R_Mod, "pageGreatest", "[I", true) := rfl
theorem fr_Mod_11 : F_Mod 11 = (R_Mod, "fields", "[I", true) := rfl
theorem fr_Mod_110 : F_Mod 110 = (R_Mod, "pageWords", "[I", true) := rfl
theorem fr_Mod_111 : F_Mod 111 = (R_Mod, "pageWordMany", "[I", true) := rfl
theorem fr_Mod_112 : F_Mod 112 = (R_Mod, "out", "[B", true) := rfl
theorem fr_Mod_114 : F_Mod 114 = (R_Mod, "cursor", "[I", true) := rfl
theorem fr_Mod_115 : F_Mod 115 = (R_Mod, "rowEnd", "[I", true) := rfl
theorem fr_Mod_116 : F_Mod 116 = (R_Mod, "wanted", "[Z", true) := rfl
theorem fr_Mod_12 : F_Mod 12 = (R_Mod, "columns", "[I", true) := rfl
theorem fr_Mod_122 : F_Mod 122 = (R_Mod, "counts", "[I", true) := rfl
theorem fr_Mod_123 : F_Mod 123 = (R_Mod, "itemKind", "[I", true) := rfl
theorem fr_Mod_124 : F_Mod 124 = (R_Mod, "itemField", "[I", true) := rfl
theorem fr_Mod_125 : F_Mod 125 = (R_Mod, "itemPlace", "[I", true) := rfl
theorem fr_Mod_126 : F_Mod 126 = (R_Mod, "by", "[I", true) := rfl
theorem fr_Mod_127 : F_Mod 127 = (R_Mod, "stepKind", "[I", true) := rfl
theorem fr_Mod_128 : F_Mod 128 = (R_Mod, "stepField", "[I", true) := rfl
theorem fr_Mod_129 : F_Mod 129 = (R_Mod, "stepOperator", "[I", true) := rfl
theorem fr_Mod_13 : F_Mod 13 = (R_Mod, "fieldOf", "[I", true) := rfl
theorem fr_Mod_130 : F_Mod 130 = (R_Mod, "stepOther", "[I", true) := rfl
theorem fr_Mod_131 : F_Mod 131 = (R_Mod, "stepMany", "[I", true) := rfl
theorem fr_Mod_132 : F_Mod 132 = (R_Mod, "literalType", "[I", true) := rfl
theorem fr_Mod_133 : F_Mod 133 = (R_Mod, "literalFrom", "[I", true) := rfl
theorem fr_Mod_134 : F_Mod 134 = (R_Mod, "literalSize", "[I", true) := rfl
theorem fr_Mod_135 : F_Mod 135 = (R_Mod, "literalBytes", "[I", true) := rfl
theorem fr_Mod_136 : F_Mod 136 = (R_Mod, "literalNumber", "[J", true) := rfl
theorem fr_Mod_137 : F_Mod 137 = (R_Mod, "pile", "[I", true) := rfl
theorem fr_Mod_138 : F_Mod 138 = (R_Mod, "pilePlace", "[I", true) := rfl
theorem fr_Mod_141 : F_Mod 141 = (R_Mod, "truths", "[I", true) := rfl
theorem fr_Mod_142 : F_Mod 142 = (R_Mod, "toldRows", "[I", true) := rfl
theorem fr_Mod_143 : F_Mod 143 = (R_Mod, "toldMissing", "[I", true) := rfl
theorem fr_Mod_144 : F_Mod 144 = (R_Mod, "toldLeast", "[I", true) := rfl
theorem fr_Mod_145 : F_Mod 145 = (R_Mod, "toldGreatest", "[I", true) := rfl
theorem fr_Mod_146 : F_Mod 146 = (R_Mod, "toldWords", "[I", true) := rfl
theorem fr_Mod_147 : F_Mod 147 = (R_Mod, "toldMany", "[I", true) := rfl
theorem fr_Mod_148 : F_Mod 148 = (R_Mod, "found", "[I", true) := rfl
theorem fr_Mod_149 : F_Mod 149 = (R_Mod, "answerRow", "[I", true) := rfl
theorem fr_Mod_150 : F_Mod 150 = (R_Mod, "newFirst", "[I", true) := rfl
theorem fr_Mod_151 : F_Mod 151 = (R_Mod, "newMany", "[I", true) := rfl
theorem fr_Mod_152 : F_Mod 152 = (R_Mod, "newCounts", "[I", true) := rfl
theorem fr_Mod_153 : F_Mod 153 = (R_Mod, "newBest", "[I", true) := rfl
theorem fr_Mod_154 : F_Mod 154 = (R_Mod, "first", "[I", true) := rfl
theorem fr_Mod_155 : F_Mod 155 = (R_Mod, "many1", "[I", true) := rfl
theorem fr_Mod_156 : F_Mod 156 = (R_Mod, "countOf", "[I", true) := rfl
theorem fr_Mod_157 : F_Mod 157 = (R_Mod, "best", "[I", true) := rfl
theorem fr_Mod_158 : F_Mod 158 = (R_Mod, "newSum", "[J", true) := rfl
theorem fr_Mod_159 : F_Mod 159 = (R_Mod, "sum", "[J", true) := rfl
theorem fr_Mod_18 : F_Mod 18 = (R_Mod, "nodeField", "[I", true) := rfl
theorem fr_Mod_19 : F_Mod 19 = (R_Mod, "nodeParent", "[I", true) := rfl
theorem fr_Mod_2 : F_Mod 2 = (R_Mod, "input", "[I", true) := rfl
theorem fr_Mod_20 : F_Mod 20 = (R_Mod, "nodeFrom", "[I", true) := rfl
theorem fr_Mod_21 : F_Mod 21 = (R_Mod, "nodeSize", "[I", true) := rfl
theorem fr_Mod_22 : F_Mod 22 = (R_Mod, "nodeBytes", "[I", true) := rfl
theorem fr_Mod_23 : F_Mod 23 = (R_Mod, "nodeValue", "[J", true) := rfl
theorem fr_Mod_26 : F_Mod 26 = (R_Mod, "entryR", "[I", true) := rfl
theorem fr_Mod_27 : F_Mod 27 = (R_Mod, "entryD", "[I", true) := rfl
theorem fr_Mod_28 : F_Mod 28 = (R_Mod, "entryColumn", "[I", true) := rfl
theorem fr_Mod_29 : F_Mod 29 = (R_Mod, "entryFrom", "[I", true) := rfl
theorem fr_Mod_30 : F_Mod 30 = (R_Mod, "entrySize", "[I", true) := rfl
theorem fr_Mod_31 : F_Mod 31 = (R_Mod, "rowFrom", "[I", true) := rfl
theorem fr_Mod_32 : F_Mod 32 = (R_Mod, "texts", "[I", true) := rfl
theorem fr_Mod_33 : F_Mod 33 = (R_Mod, "entryValue", "[J", true) := rfl
theorem fr_Mod_45 : F_Mod 45 = (R_Mod, "repetitions", "[I", true) := rfl
theorem fr_Mod_46 : F_Mod 46 = (R_Mod, "definitions", "[I", true) := rfl
theorem fr_Mod_47 : F_Mod 47 = (R_Mod, "newRepetitions", "[I", true) := rfl
theorem fr_Mod_48 : F_Mod 48 = (R_Mod, "newDefinitions", "[I", true) := rfl
theorem fr_Mod_49 : F_Mod 49 = (R_Mod, "wholes", "[J", true) := rfl
theorem fr_Mod_5 : F_Mod 5 = (R_Mod, "kind", "[I", true) := rfl
theorem fr_Mod_50 : F_Mod 50 = (R_Mod, "newWholes", "[J", true) := rfl
theorem fr_Mod_51 : F_Mod 51 = (R_Mod, "words8", "[J", true) := rfl
theorem fr_Mod_52 : F_Mod 52 = (R_Mod, "textAt", "[I", true) := rfl
theorem fr_Mod_53 : F_Mod 53 = (R_Mod, "newFrom", "[I", true) := rfl
theorem fr_Mod_54 : F_Mod 54 = (R_Mod, "wordFrom", "[I", true) := rfl
theorem fr_Mod_55 : F_Mod 55 = (R_Mod, "bytes", "[I", true) := rfl
theorem fr_Mod_56 : F_Mod 56 = (R_Mod, "newBytes", "[I", true) := rfl
theorem fr_Mod_57 : F_Mod 57 = (R_Mod, "wordBytes", "[I", true) := rfl
theorem fr_Mod_6 : F_Mod 6 = (R_Mod, "type", "[I", true) := rfl
theorem fr_Mod_60 : F_Mod 60 = (R_Mod, "sheet", "[I", true) := rfl
theorem fr_Mod_61 : F_Mod 61 = (R_Mod, "body", "[I", true) := rfl
theorem fr_Mod_62 : F_Mod 62 = (R_Mod, "file", "[I", true) := rfl
theorem fr_Mod_63 : F_Mod 63 = (R_Mod, "work", "[I", true) := rfl
theorem fr_Mod_7 : F_Mod 7 = (R_Mod, "in", "[I", true) := rfl
theorem fr_Mod_70 : F_Mod 70 = (R_Mod, "longs", "[J", true) := rfl
theorem fr_Mod_72 : F_Mod 72 = (R_Mod, "numbers", "[I", true) := rfl
theorem fr_Mod_73 : F_Mod 73 = (R_Mod, "commonOf", "[I", true) := rfl
theorem fr_Mod_74 : F_Mod 74 = (R_Mod, "moreOf", "[I", true) := rfl
theorem fr_Mod_75 : F_Mod 75 = (R_Mod, "told2", "[J", true) := rfl
theorem fr_Mod_76 : F_Mod 76 = (R_Mod, "toldSize", "[I", true) := rfl
theorem fr_Mod_77 : F_Mod 77 = (R_Mod, "toldBytes", "[I", true) := rfl
theorem fr_Mod_78 : F_Mod 78 = (R_Mod, "chunkBytes", "[I", true) := rfl
theorem fr_Mod_79 : F_Mod 79 = (R_Mod, "chunkPages", "[I", true) := rfl
theorem fr_Mod_8 : F_Mod 8 = (R_Mod, "columnOf", "[I", true) := rfl
theorem fr_Mod_80 : F_Mod 80 = (R_Mod, "where", "[I", true) := rfl
theorem fr_Mod_81 : F_Mod 81 = (R_Mod, "groupRows", "[I", true) := rfl
theorem fr_Mod_89 : F_Mod 89 = (R_Mod, "poolNumber", "[J", true) := rfl
theorem fr_Mod_9 : F_Mod 9 = (R_Mod, "long1", "[I", true) := rfl
theorem fr_Mod_90 : F_Mod 90 = (R_Mod, "poolFrom", "[I", true) := rfl
theorem fr_Mod_91 : F_Mod 91 = (R_Mod, "poolLong", "[I", true) := rfl
theorem fr_Mod_92 : F_Mod 92 = (R_Mod, "poolBytes", "[I", true) := rfl
theorem fr_Mod_95 : F_Mod 95 = (R_Mod, "openR", "[I", true) := rfl
theorem fr_Mod_96 : F_Mod 96 = (R_Mod, "openD", "[I", true) := rfl
theorem fr_Mod_97 : F_Mod 97 = (R_Mod, "openValue", "[I", true) := rfl
theorem fr_Mod_98 : F_Mod 98 = (R_Mod, "chunkEntries", "[I", true) := rfl
theorem fr_Mod_99 : F_Mod 99 = (R_Mod, "chunkMissing", "[I", true) := rfl
theorem w_8_171 : (Jvm.Cond.constant "StripedVaultModel" (7 : Nat) (40000 : Int32)) ∈ TG := tw_8 171 (by decide +kernel) (by decide +kernel)
theorem w_8_172 : (Jvm.Cond.constant "StripedVaultModel" (81 : Nat) (60000 : Int32)) ∈ TG := tw_8 172 (by decide +kernel) (by decide +kernel)
theorem w_8_173 : (Jvm.Cond.constant "StripedVaultModel" (172 : Nat) (50000 : Int32)) ∈ TG := tw_8 173 (by decide +kernel) (by decide +kernel)
theorem w_8_174 : (Jvm.Cond.constant "StripedVaultModel" (182 : Nat) (160000 : Int32)) ∈ TG := tw_8 174 (by decide +kernel) (by decide +kernel)
theorem w_8_175 : (Jvm.Cond.constant "StripedVaultModel" (237 : Nat) (100000 : Int32)) ∈ TG := tw_8 175 (by decide +kernel) (by decide +kernel)
theorem w_8_177 : (Jvm.Cond.fieldLink "StripedVaultModel" (8 : Nat) "StripedVaultModel" "tape" "[I") ∈ TG := tw_8 177 (by decide +kernel) (by decide +kernel)
theorem w_8_178 : (Jvm.Cond.fieldLink "StripedVaultModel" (14 : Nat) "StripedVaultModel" "input" "[I") ∈ TG := tw_8 178 (by decide +kernel) (by decide +kernel)
theorem w_8_181 : (Jvm.Cond.fieldLink "StripedVaultModel" (17 : Nat) "StripedVaultModel" "kind" "[I") ∈ TG := tw_8 181 (by decide +kernel) (by decide +kernel)
theorem w_8_182 : (Jvm.Cond.fieldLink "StripedVaultModel" (20 : Nat) "StripedVaultModel" "type" "[I") ∈ TG := tw_8 182 (by decide +kernel) (by decide +kernel)
theorem w_8_183 : (Jvm.Cond.fieldLink "StripedVaultModel" (23 : Nat) "StripedVaultModel" "in" "[I") ∈ TG := tw_8 183 (by decide +kernel) (by decide +kernel)
theorem w_8_184 : (Jvm.Cond.fieldLink "StripedVaultModel" (26 : Nat) "StripedVaultModel" "columnOf" "[I") ∈ TG := tw_8 184 (by decide +kernel) (by decide +kernel)
theorem w_8_185 : (Jvm.Cond.fieldLink "StripedVaultModel" (29 : Nat) "StripedVaultModel" "long1" "[I") ∈ TG := tw_8 185 (by decide +kernel) (by decide +kernel)
theorem w_8_186 : (Jvm.Cond.fieldLink "StripedVaultModel" (32 : Nat) "StripedVaultModel" "letters" "[I") ∈ TG := tw_8 186 (by decide +kernel) (by decide +kernel)
theorem w_8_187 : (Jvm.Cond.fieldLink "StripedVaultModel" (35 : Nat) "StripedVaultModel" "fields" "[I") ∈ TG := tw_8 187 (by decide +kernel) (by decide +kernel)
theorem w_8_188 : (Jvm.Cond.fieldLink "StripedVaultModel" (38 : Nat) "StripedVaultModel" "columns" "[I") ∈ TG := tw_8 188 (by decide +kernel) (by decide +kernel)
theorem w_8_189 : (Jvm.Cond.fieldLink "StripedVaultModel" (41 : Nat) "StripedVaultModel" "fieldOf" "[I") ∈ TG := tw_8 189 (by decide +kernel) (by decide +kernel)
theorem w_8_194 : (Jvm.Cond.fieldLink "StripedVaultModel" (44 : Nat) "StripedVaultModel" "nodeField" "[I") ∈ TG := tw_8 194 (by decide +kernel) (by decide +kernel)
theorem w_8_195 : (Jvm.Cond.fieldLink "StripedVaultModel" (47 : Nat) "StripedVaultModel" "nodeParent" "[I") ∈ TG := tw_8 195 (by decide +kernel) (by decide +kernel)
theorem w_8_196 : (Jvm.Cond.fieldLink "StripedVaultModel" (50 : Nat) "StripedVaultModel" "nodeFrom" "[I") ∈ TG := tw_8 196 (by decide +kernel) (by decide +kernel)
theorem w_8_197 : (Jvm.Cond.fieldLink "StripedVaultModel" (53 : Nat) "StripedVaultModel" "nodeSize" "[I") ∈ TG := tw_8 197 (by decide +kernel) (by decide +kernel)
theorem w_8_198 : (Jvm.Cond.fieldLink "StripedVaultModel" (56 : Nat) "StripedVaultModel" "nodeBytes" "[I") ∈ TG := tw_8 198 (by decide +kernel) (by decide +kernel)
theorem w_8_199 : (Jvm.Cond.fieldLink "StripedVaultModel" (59 : Nat) "StripedVaultModel" "nodeValue" "[J") ∈ TG := tw_8 199 (by decide +kernel) (by decide +kernel)
theorem w_8_202 : (Jvm.Cond.fieldLink "StripedVaultModel" (63 : Nat) "StripedVaultModel" "entryR" "[I") ∈ TG := tw_8 202 (by decide +kernel) (by decide +kernel)
theorem w_8_203 : (Jvm.Cond.fieldLink "StripedVaultModel" (66 : Nat) "StripedVaultModel" "entryD" "[I") ∈ TG := tw_8 203 (by decide +kernel) (by decide +kernel)
theorem w_8_204 : (Jvm.Cond.fieldLink "StripedVaultModel" (69 : Nat) "StripedVaultModel" "entryColumn" "[I") ∈ TG := tw_8 204 (by decide +kernel) (by decide +kernel)
theorem w_8_205 : (Jvm.Cond.fieldLink "StripedVaultModel" (72 : Nat) "StripedVaultModel" "entryFrom" "[I") ∈ TG := tw_8 205 (by decide +kernel) (by decide +kernel)
theorem w_8_206 : (Jvm.Cond.fieldLink "StripedVaultModel" (75 : Nat) "StripedVaultModel" "entrySize" "[I") ∈ TG := tw_8 206 (by decide +kernel) (by decide +kernel)
theorem w_8_207 : (Jvm.Cond.fieldLink "StripedVaultModel" (78 : Nat) "StripedVaultModel" "rowFrom" "[I") ∈ TG := tw_8 207 (by decide +kernel) (by decide +kernel)
theorem w_8_208 : (Jvm.Cond.fieldLink "StripedVaultModel" (82 : Nat) "StripedVaultModel" "texts" "[I") ∈ TG := tw_8 208 (by decide +kernel) (by decide +kernel)
theorem w_8_209 : (Jvm.Cond.fieldLink "StripedVaultModel" (85 : Nat) "StripedVaultModel" "entryValue" "[J") ∈ TG := tw_8 209 (by decide +kernel) (by decide +kernel)
theorem w_8_221 : (Jvm.Cond.fieldLink "StripedVaultModel" (88 : Nat) "StripedVaultModel" "repetitions" "[I") ∈ TG := tw_8 221 (by decide +kernel) (by decide +kernel)
theorem w_8_222 : (Jvm.Cond.fieldLink "StripedVaultModel" (91 : Nat) "StripedVaultModel" "definitions" "[I") ∈ TG := tw_8 222 (by decide +kernel) (by decide +kernel)
theorem w_8_223 : (Jvm.Cond.fieldLink "StripedVaultModel" (94 : Nat) "StripedVaultModel" "newRepetitions" "[I") ∈ TG := tw_8 223 (by decide +kernel) (by decide +kernel)
theorem w_8_224 : (Jvm.Cond.fieldLink "StripedVaultModel" (97 : Nat) "StripedVaultModel" "newDefinitions" "[I") ∈ TG := tw_8 224 (by decide +kernel) (by decide +kernel)
theorem w_8_225 : (Jvm.Cond.fieldLink "StripedVaultModel" (100 : Nat) "StripedVaultModel" "wholes" "[J") ∈ TG := tw_8 225 (by decide +kernel) (by decide +kernel)
theorem w_8_226 : (Jvm.Cond.fieldLink "StripedVaultModel" (103 : Nat) "StripedVaultModel" "newWholes" "[J") ∈ TG := tw_8 226 (by decide +kernel) (by decide +kernel)
theorem w_8_227 : (Jvm.Cond.fieldLink "StripedVaultModel" (106 : Nat) "StripedVaultModel" "words8" "[J") ∈ TG := tw_8 227 (by decide +kernel) (by decide +kernel)
theorem w_8_228 : (Jvm.Cond.fieldLink "StripedVaultModel" (109 : Nat) "StripedVaultModel" "textAt" "[I") ∈ TG := tw_8 228 (by decide +kernel) (by decide +kernel)
theorem w_8_229 : (Jvm.Cond.fieldLink "StripedVaultModel" (112 : Nat) "StripedVaultModel" "newFrom" "[I") ∈ TG := tw_8 229 (by decide +kernel) (by decide +kernel)
theorem w_8_230 : (Jvm.Cond.fieldLink "StripedVaultModel" (115 : Nat) "StripedVaultModel" "wordFrom" "[I") ∈ TG := tw_8 230 (by decide +kernel) (by decide +kernel)
theorem w_8_231 : (Jvm.Cond.fieldLink "StripedVaultModel" (118 : Nat) "StripedVaultModel" "bytes" "[I") ∈ TG := tw_8 231 (by decide +kernel) (by decide +kernel)
theorem w_8_232 : (Jvm.Cond.fieldLink "StripedVaultModel" (121 : Nat) "StripedVaultModel" "newBytes" "[I") ∈ TG := tw_8 232 (by decide +kernel) (by decide +kernel)
theorem w_8_233 : (Jvm.Cond.fieldLink "StripedVaultModel" (124 : Nat) "StripedVaultModel" "wordBytes" "[I") ∈ TG := tw_8 233 (by decide +kernel) (by decide +kernel)
theorem w_8_236 : (Jvm.Cond.fieldLink "StripedVaultModel" (127 : Nat) "StripedVaultModel" "sheet" "[I") ∈ TG := tw_8 236 (by decide +kernel) (by decide +kernel)
theorem w_8_237 : (Jvm.Cond.fieldLink "StripedVaultModel" (130 : Nat) "StripedVaultModel" "body" "[I") ∈ TG := tw_8 237 (by decide +kernel) (by decide +kernel)
theorem w_8_238 : (Jvm.Cond.fieldLink "StripedVaultModel" (133 : Nat) "StripedVaultModel" "file" "[I") ∈ TG := tw_8 238 (by decide +kernel) (by decide +kernel)
theorem w_8_239 : (Jvm.Cond.fieldLink "StripedVaultModel" (136 : Nat) "StripedVaultModel" "work" "[I") ∈ TG := tw_8 239 (by decide +kernel) (by decide +kernel)
theorem w_9_10 : (Jvm.Cond.fieldLink "StripedVaultModel" (148 : Nat) "StripedVaultModel" "moreOf" "[I") ∈ TG := tw_9 10 (by decide +kernel) (by decide +kernel)
theorem w_9_11 : (Jvm.Cond.fieldLink "StripedVaultModel" (151 : Nat) "StripedVaultModel" "told2" "[J") ∈ TG := tw_9 11 (by decide +kernel) (by decide +kernel)
theorem w_9_12 : (Jvm.Cond.fieldLink "StripedVaultModel" (154 : Nat) "StripedVaultModel" "toldSize" "[I") ∈ TG := tw_9 12 (by decide +kernel) (by decide +kernel)
theorem w_9_13 : (Jvm.Cond.fieldLink "StripedVaultModel" (157 : Nat) "StripedVaultModel" "toldBytes" "[I") ∈ TG := tw_9 13 (by decide +kernel) (by decide +kernel)
theorem w_9_14 : (Jvm.Cond.fieldLink "StripedVaultModel" (160 : Nat) "StripedVaultModel" "chunkBytes" "[I") ∈ TG := tw_9 14 (by decide +kernel) (by decide +kernel)
theorem w_9_15 : (Jvm.Cond.fieldLink "StripedVaultModel" (163 : Nat) "StripedVaultModel" "chunkPages" "[I") ∈ TG := tw_9 15 (by decide +kernel) (by decide +kernel)
theorem w_9_16 : (Jvm.Cond.fieldLink "StripedVaultModel" (166 : Nat) "StripedVaultModel" "where" "[I") ∈ TG := tw_9 16 (by decide +kernel) (by decide +kernel)
theorem w_9_17 : (Jvm.Cond.fieldLink "StripedVaultModel" (169 : Nat) "StripedVaultModel" "groupRows" "[I") ∈ TG := tw_9 17 (by decide +kernel) (by decide +kernel)
theorem w_9_25 : (Jvm.Cond.fieldLink "StripedVaultModel" (173 : Nat) "StripedVaultModel" "poolNumber" "[J") ∈ TG := tw_9 25 (by decide +kernel) (by decide +kernel)
theorem w_9_26 : (Jvm.Cond.fieldLink "StripedVaultModel" (176 : Nat) "StripedVaultModel" "poolFrom" "[I") ∈ TG := tw_9 26 (by decide +kernel) (by decide +kernel)
theorem w_9_27 : (Jvm.Cond.fieldLink "StripedVaultModel" (179 : Nat) "StripedVaultModel" "poolLong" "[I") ∈ TG := tw_9 27 (by decide +kernel) (by decide +kernel)
theorem w_9_28 : (Jvm.Cond.fieldLink "StripedVaultModel" (183 : Nat) "StripedVaultModel" "poolBytes" "[I") ∈ TG := tw_9 28 (by decide +kernel) (by decide +kernel)
theorem w_9_31 : (Jvm.Cond.fieldLink "StripedVaultModel" (186 : Nat) "StripedVaultModel" "openR" "[I") ∈ TG := tw_9 31 (by decide +kernel) (by decide +kernel)
theorem w_9_32 : (Jvm.Cond.fieldLink "StripedVaultModel" (189 : Nat) "StripedVaultModel" "openD" "[I") ∈ TG := tw_9 32 (by decide +kernel) (by decide +kernel)
theorem w_9_33 : (Jvm.Cond.fieldLink "StripedVaultModel" (192 : Nat) "StripedVaultModel" "openValue" "[I") ∈ TG := tw_9 33 (by decide +kernel) (by decide +kernel)
theorem w_9_34 : (Jvm.Cond.fieldLink "StripedVaultModel" (195 : Nat) "StripedVaultModel" "chunkEntries" "[I") ∈ TG := tw_9 34 (by decide +kernel) (by decide +kernel)
theorem w_9_35 : (Jvm.Cond.fieldLink "StripedVaultModel" (198 : Nat) "StripedVaultModel" "chunkMissing" "[I") ∈ TG := tw_9 35 (by decide +kernel) (by decide +kernel)
theorem w_9_36 : (Jvm.Cond.fieldLink "StripedVaultModel" (201 : Nat) "StripedVaultModel" "chunkLeast" "[I") ∈ TG := tw_9 36 (by decide +kernel) (by decide +kernel)
theorem w_9_37 : (Jvm.Cond.fieldLink "StripedVaultModel" (204 : Nat) "StripedVaultModel" "chunkGreatest" "[I") ∈ TG := tw_9 37 (by decide +kernel) (by decide +kernel)
theorem w_9_38 : (Jvm.Cond.fieldLink "StripedVaultModel" (207 : Nat) "StripedVaultModel" "chunkFirst" "[I") ∈ TG := tw_9 38 (by decide +kernel) (by decide +kernel)
theorem w_9_39 : (Jvm.Cond.fieldLink "StripedVaultModel" (210 : Nat) "StripedVaultModel" "pageColumn" "[I") ∈ TG := tw_9 39 (by decide +kernel) (by decide +kernel)
theorem w_9_40 : (Jvm.Cond.fieldLink "StripedVaultModel" (213 : Nat) "StripedVaultModel" "pageRow" "[I") ∈ TG := tw_9 40 (by decide +kernel) (by decide +kernel)
theorem w_9_41 : (Jvm.Cond.fieldLink "StripedVaultModel" (216 : Nat) "StripedVaultModel" "pageRows" "[I") ∈ TG := tw_9 41 (by decide +kernel) (by decide +kernel)
theorem w_9_42 : (Jvm.Cond.fieldLink "StripedVaultModel" (219 : Nat) "StripedVaultModel" "pageMany" "[I") ∈ TG := tw_9 42 (by decide +kernel) (by decide +kernel)
theorem w_9_43 : (Jvm.Cond.fieldLink "StripedVaultModel" (222 : Nat) "StripedVaultModel" "pageMissing" "[I") ∈ TG := tw_9 43 (by decide +kernel) (by decide +kernel)
theorem w_9_44 : (Jvm.Cond.fieldLink "StripedVaultModel" (225 : Nat) "StripedVaultModel" "pageLeast" "[I") ∈ TG := tw_9 44 (by decide +kernel) (by decide +kernel)
theorem w_9_45 : (Jvm.Cond.fieldLink "StripedVaultModel" (228 : Nat) "StripedVaultModel" "pageGreatest" "[I") ∈ TG := tw_9 45 (by decide +kernel) (by decide +kernel)
theorem w_9_46 : (Jvm.Cond.fieldLink "StripedVaultModel" (231 : Nat) "StripedVaultModel" "pageWords" "[I") ∈ TG := tw_9 46 (by decide +kernel) (by decide +kernel)
theorem w_9_47 : (Jvm.Cond.fieldLink "StripedVaultModel" (234 : Nat) "StripedVaultModel" "pageWordMany" "[I") ∈ TG := tw_9 47 (by decide +kernel) (by decide +kernel)
theorem w_9_48 : (Jvm.Cond.fieldLink "StripedVaultModel" (238 : Nat) "StripedVaultModel" "out" "[B") ∈ TG := tw_9 48 (by decide +kernel) (by decide +kernel)
theorem w_9_50 : (Jvm.Cond.fieldLink "StripedVaultModel" (242 : Nat) "StripedVaultModel" "cursor" "[I") ∈ TG := tw_9 50 (by decide +kernel) (by decide +kernel)
theorem w_9_51 : (Jvm.Cond.fieldLink "StripedVaultModel" (245 : Nat) "StripedVaultModel" "rowEnd" "[I") ∈ TG := tw_9 51 (by decide +kernel) (by decide +kernel)
theorem w_9_52 : (Jvm.Cond.fieldLink "StripedVaultModel" (248 : Nat) "StripedVaultModel" "wanted" "[Z") ∈ TG := tw_9 52 (by decide +kernel) (by decide +kernel)
theorem w_9_58 : (Jvm.Cond.fieldLink "StripedVaultModel" (252 : Nat) "StripedVaultModel" "counts" "[I") ∈ TG := tw_9 58 (by decide +kernel) (by decide +kernel)
theorem w_9_59 : (Jvm.Cond.fieldLink "StripedVaultModel" (255 : Nat) "StripedVaultModel" "itemKind" "[I") ∈ TG := tw_9 59 (by decide +kernel) (by decide +kernel)
theorem w_9_6 : (Jvm.Cond.fieldLink "StripedVaultModel" (139 : Nat) "StripedVaultModel" "longs" "[J") ∈ TG := tw_9 6 (by decide +kernel) (by decide +kernel)
theorem w_9_60 : (Jvm.Cond.fieldLink "StripedVaultModel" (258 : Nat) "StripedVaultModel" "itemField" "[I") ∈ TG := tw_9 60 (by decide +kernel) (by decide +kernel)
theorem w_9_61 : (Jvm.Cond.fieldLink "StripedVaultModel" (261 : Nat) "StripedVaultModel" "itemPlace" "[I") ∈ TG := tw_9 61 (by decide +kernel) (by decide +kernel)
theorem w_9_62 : (Jvm.Cond.fieldLink "StripedVaultModel" (264 : Nat) "StripedVaultModel" "by" "[I") ∈ TG := tw_9 62 (by decide +kernel) (by decide +kernel)
theorem w_9_63 : (Jvm.Cond.fieldLink "StripedVaultModel" (267 : Nat) "StripedVaultModel" "stepKind" "[I") ∈ TG := tw_9 63 (by decide +kernel) (by decide +kernel)
theorem w_9_64 : (Jvm.Cond.fieldLink "StripedVaultModel" (270 : Nat) "StripedVaultModel" "stepField" "[I") ∈ TG := tw_9 64 (by decide +kernel) (by decide +kernel)
theorem w_9_65 : (Jvm.Cond.fieldLink "StripedVaultModel" (273 : Nat) "StripedVaultModel" "stepOperator" "[I") ∈ TG := tw_9 65 (by decide +kernel) (by decide +kernel)
theorem w_9_66 : (Jvm.Cond.fieldLink "StripedVaultModel" (276 : Nat) "StripedVaultModel" "stepOther" "[I") ∈ TG := tw_9 66 (by decide +kernel) (by decide +kernel)
theorem w_9_67 : (Jvm.Cond.fieldLink "StripedVaultModel" (279 : Nat) "StripedVaultModel" "stepMany" "[I") ∈ TG := tw_9 67 (by decide +kernel) (by decide +kernel)
theorem w_9_68 : (Jvm.Cond.fieldLink "StripedVaultModel" (282 : Nat) "StripedVaultModel" "literalType" "[I") ∈ TG := tw_9 68 (by decide +kernel) (by decide +kernel)
theorem w_9_69 : (Jvm.Cond.fieldLink "StripedVaultModel" (285 : Nat) "StripedVaultModel" "literalFrom" "[I") ∈ TG := tw_9 69 (by decide +kernel) (by decide +kernel)
theorem w_9_70 : (Jvm.Cond.fieldLink "StripedVaultModel" (288 : Nat) "StripedVaultModel" "literalSize" "[I") ∈ TG := tw_9 70 (by decide +kernel) (by decide +kernel)
theorem w_9_71 : (Jvm.Cond.fieldLink "StripedVaultModel" (291 : Nat) "StripedVaultModel" "literalBytes" "[I") ∈ TG := tw_9 71 (by decide +kernel) (by decide +kernel)
theorem w_9_72 : (Jvm.Cond.fieldLink "StripedVaultModel" (294 : Nat) "StripedVaultModel" "literalNumber" "[J") ∈ TG := tw_9 72 (by decide +kernel) (by decide +kernel)
theorem w_9_73 : (Jvm.Cond.fieldLink "StripedVaultModel" (297 : Nat) "StripedVaultModel" "pile" "[I") ∈ TG := tw_9 73 (by decide +kernel) (by decide +kernel)
theorem w_9_74 : (Jvm.Cond.fieldLink "StripedVaultModel" (300 : Nat) "StripedVaultModel" "pilePlace" "[I") ∈ TG := tw_9 74 (by decide +kernel) (by decide +kernel)
theorem w_9_77 : (Jvm.Cond.fieldLink "StripedVaultModel" (303 : Nat) "StripedVaultModel" "truths" "[I") ∈ TG := tw_9 77 (by decide +kernel) (by decide +kernel)
theorem w_9_78 : (Jvm.Cond.fieldLink "StripedVaultModel" (306 : Nat) "StripedVaultModel" "toldRows" "[I") ∈ TG := tw_9 78 (by decide +kernel) (by decide +kernel)
theorem w_9_79 : (Jvm.Cond.fieldLink "StripedVaultModel" (309 : Nat) "StripedVaultModel" "toldMissing" "[I") ∈ TG := tw_9 79 (by decide +kernel) (by decide +kernel)
theorem w_9_8 : (Jvm.Cond.fieldLink "StripedVaultModel" (142 : Nat) "StripedVaultModel" "numbers" "[I") ∈ TG := tw_9 8 (by decide +kernel) (by decide +kernel)
theorem w_9_80 : (Jvm.Cond.fieldLink "StripedVaultModel" (312 : Nat) "StripedVaultModel" "toldLeast" "[I") ∈ TG := tw_9 80 (by decide +kernel) (by decide +kernel)
theorem w_9_81 : (Jvm.Cond.fieldLink "StripedVaultModel" (315 : Nat) "StripedVaultModel" "toldGreatest" "[I") ∈ TG := tw_9 81 (by decide +kernel) (by decide +kernel)
theorem w_9_82 : (Jvm.Cond.fieldLink "StripedVaultModel" (318 : Nat) "StripedVaultModel" "toldWords" "[I") ∈ TG := tw_9 82 (by decide +kernel) (by decide +kernel)
theorem w_9_83 : (Jvm.Cond.fieldLink "StripedVaultModel" (321 : Nat) "StripedVaultModel" "toldMany" "[I") ∈ TG := tw_9 83 (by decide +kernel) (by decide +kernel)
theorem w_9_84 : (Jvm.Cond.fieldLink "StripedVaultModel" (324 : Nat) "StripedVaultModel" "found" "[I") ∈ TG := tw_9 84 (by decide +kernel) (by decide +kernel)
theorem w_9_85 : (Jvm.Cond.fieldLink "StripedVaultModel" (327 : Nat) "StripedVaultModel" "answerRow" "[I") ∈ TG := tw_9 85 (by decide +kernel) (by decide +kernel)
theorem w_9_86 : (Jvm.Cond.fieldLink "StripedVaultModel" (330 : Nat) "StripedVaultModel" "newFirst" "[I") ∈ TG := tw_9 86 (by decide +kernel) (by decide +kernel)
theorem w_9_87 : (Jvm.Cond.fieldLink "StripedVaultModel" (333 : Nat) "StripedVaultModel" "newMany" "[I") ∈ TG := tw_9 87 (by decide +kernel) (by decide +kernel)
theorem w_9_88 : (Jvm.Cond.fieldLink "StripedVaultModel" (336 : Nat) "StripedVaultModel" "newCounts" "[I") ∈ TG := tw_9 88 (by decide +kernel) (by decide +kernel)
theorem w_9_89 : (Jvm.Cond.fieldLink "StripedVaultModel" (339 : Nat) "StripedVaultModel" "newBest" "[I") ∈ TG := tw_9 89 (by decide +kernel) (by decide +kernel)
theorem w_9_9 : (Jvm.Cond.fieldLink "StripedVaultModel" (145 : Nat) "StripedVaultModel" "commonOf" "[I") ∈ TG := tw_9 9 (by decide +kernel) (by decide +kernel)
theorem w_9_90 : (Jvm.Cond.fieldLink "StripedVaultModel" (342 : Nat) "StripedVaultModel" "first" "[I") ∈ TG := tw_9 90 (by decide +kernel) (by decide +kernel)
theorem w_9_91 : (Jvm.Cond.fieldLink "StripedVaultModel" (345 : Nat) "StripedVaultModel" "many1" "[I") ∈ TG := tw_9 91 (by decide +kernel) (by decide +kernel)
theorem w_9_92 : (Jvm.Cond.fieldLink "StripedVaultModel" (348 : Nat) "StripedVaultModel" "countOf" "[I") ∈ TG := tw_9 92 (by decide +kernel) (by decide +kernel)
theorem w_9_93 : (Jvm.Cond.fieldLink "StripedVaultModel" (351 : Nat) "StripedVaultModel" "best" "[I") ∈ TG := tw_9 93 (by decide +kernel) (by decide +kernel)
theorem w_9_94 : (Jvm.Cond.fieldLink "StripedVaultModel" (354 : Nat) "StripedVaultModel" "newSum" "[J") ∈ TG := tw_9 94 (by decide +kernel) (by decide +kernel)
theorem w_9_95 : (Jvm.Cond.fieldLink "StripedVaultModel" (357 : Nat) "StripedVaultModel" "sum" "[J") ∈ TG := tw_9 95 (by decide +kernel) (by decide +kernel)
theorem d_Mod_init_0 : decode b_Mod_init 0 = .ok (.aload_n 0, 1) := by decide +kernel
theorem d_Mod_init_1 : decode b_Mod_init 1 = .ok (.invokespecial 1, 3) := by decide +kernel
theorem d_Mod_init_4 : decode b_Mod_init 4 = .ok (.aload_n 0, 1) := by decide +kernel
theorem d_Mod_init_5 : decode b_Mod_init 5 = .ok (.ldc 7, 2) := by decide +kernel
theorem d_Mod_init_7 : decode b_Mod_init 7 = .ok (.newarray .int, 2) := by decide +kernel
theorem d_Mod_init_9 : decode b_Mod_init 9 = .ok (.putfield 8, 3) := by decide +kernel
theorem d_Mod_init_12 : decode b_Mod_init 12 = .ok (.aload_n 0, 1) := by decide +kernel
theorem d_Mod_init_13 : decode b_Mod_init 13 = .ok (.ldc 7, 2) := by decide +kernel
theorem d_Mod_init_15 : decode b_Mod_init 15 = .ok (.newarray .int, 2) := by decide +kernel
theorem d_Mod_init_17 : decode b_Mod_init 17 = .ok (.putfield 14, 3) := by decide +kernel
theorem d_Mod_init_20 : decode b_Mod_init 20 = .ok (.aload_n 0, 1) := by decide +kernel
theorem d_Mod_init_21 : decode b_Mod_init 21 = .ok (.sipush 384, 3) := by decide +kernel
theorem d_Mod_init_24 : decode b_Mod_init 24 = .ok (.newarray .int, 2) := by decide +kernel
theorem d_Mod_init_26 : decode b_Mod_init 26 = .ok (.putfield 17, 3) := by decide +kernel
theorem d_Mod_init_29 : decode b_Mod_init 29 = .ok (.aload_n 0, 1) := by decide +kernel
theorem d_Mod_init_30 : decode b_Mod_init 30 = .ok (.sipush 384, 3) := by decide +kernel
theorem d_Mod_init_33 : decode b_Mod_init 33 = .ok (.newarray .int, 2) := by decide +kernel
theorem d_Mod_init_35 : decode b_Mod_init 35 = .ok (.putfield 20, 3) := by decide +kernel
theorem d_Mod_init_38 : decode b_Mod_init 38 = .ok (.aload_n 0, 1) := by decide +kernel
theorem d_Mod_init_39 : decode b_Mod_init 39 = .ok (.sipush 384, 3) := by decide +kernel
theorem d_Mod_init_42 : decode b_Mod_init 42 = .ok (.newarray .int, 2) := by decide +kernel
theorem d_Mod_init_44 : decode b_Mod_init 44 = .ok (.putfield 23, 3) := by decide +kernel
theorem d_Mod_init_47 : decode b_Mod_init 47 = .ok (.aload_n 0, 1) := by decide +kernel
theorem d_Mod_init_48 : decode b_Mod_init 48 = .ok (.sipush 384, 3) := by decide +kernel
theorem d_Mod_init_51 : decode b_Mod_init 51 = .ok (.newarray .int, 2) := by decide +kernel
theorem d_Mod_init_53 : decode b_Mod_init 53 = .ok (.putfield 26, 3) := by decide +kernel
theorem d_Mod_init_56 : decode b_Mod_init 56 = .ok (.aload_n 0, 1) := by decide +kernel
theorem d_Mod_init_57 : decode b_Mod_init 57 = .ok (.sipush 384, 3) := by decide +kernel
theorem d_Mod_init_60 : decode b_Mod_init 60 = .ok (.newarray .int, 2) := by decide +kernel
theorem d_Mod_init_62 : decode b_Mod_init 62 = .ok (.putfield 29, 3) := by decide +kernel
theorem d_Mod_init_65 : decode b_Mod_init 65 = .ok (.aload_n 0, 1) := by decide +kernel
theorem d_Mod_init_66 : decode b_Mod_init 66 = .ok (.sipush 6144, 3) := by decide +kernel
theorem d_Mod_init_69 : decode b_Mod_init 69 = .ok (.newarray .int, 2) := by decide +kernel
theorem d_Mod_init_71 : decode b_Mod_init 71 = .ok (.putfield 32, 3) := by decide +kernel
theorem d_Mod_init_74 : decode b_Mod_init 74 = .ok (.aload_n 0, 1) := by decide +kernel
theorem d_Mod_init_75 : decode b_Mod_init 75 = .ok (.iconst 3, 1) := by decide +kernel
theorem d_Mod_init_76 : decode b_Mod_init 76 = .ok (.newarray .int, 2) := by decide +kernel
theorem d_Mod_init_78 : decode b_Mod_init 78 = .ok (.putfield 35, 3) := by decide +kernel
theorem d_Mod_init_81 : decode b_Mod_init 81 = .ok (.aload_n 0, 1) := by decide +kernel
theorem d_Mod_init_82 : decode b_Mod_init 82 = .ok (.iconst 3, 1) := by decide +kernel
theorem d_Mod_init_83 : decode b_Mod_init 83 = .ok (.newarray .int, 2) := by decide +kernel
theorem d_Mod_init_85 : decode b_Mod_init 85 = .ok (.putfield 38, 3) := by decide +kernel
theorem d_Mod_init_88 : decode b_Mod_init 88 = .ok (.aload_n 0, 1) := by decide +kernel
theorem d_Mod_init_89 : decode b_Mod_init 89 = .ok (.sipush 192, 3) := by decide +kernel
theorem d_Mod_init_92 : decode b_Mod_init 92 = .ok (.newarray .int, 2) := by decide +kernel
theorem d_Mod_init_94 : decode b_Mod_init 94 = .ok (.putfield 41, 3) := by decide +kernel
theorem d_Mod_init_97 : decode b_Mod_init 97 = .ok (.aload_n 0, 1) := by decide +kernel
theorem d_Mod_init_98 : decode b_Mod_init 98 = .ok (.sipush 4100, 3) := by decide +kernel
theorem d_Mod_init_101 : decode b_Mod_init 101 = .ok (.newarray .int, 2) := by decide +kernel
theorem d_Mod_init_103 : decode b_Mod_init 103 = .ok (.putfield 44, 3) := by decide +kernel
theorem d_Mod_init_106 : decode b_Mod_init 106 = .ok (.aload_n 0, 1) := by decide +kernel
theorem d_Mod_init_107 : decode b_Mod_init 107 = .ok (.sipush 4100, 3) := by decide +kernel
theorem d_Mod_init_110 : decode b_Mod_init 110 = .ok (.newarray .int, 2) := by decide +kernel
theorem d_Mod_init_112 : decode b_Mod_init 112 = .ok (.putfield 47, 3) := by decide +kernel
theorem d_Mod_init_115 : decode b_Mod_init 115 = .ok (.aload_n 0, 1) := by decide +kernel
theorem d_Mod_init_116 : decode b_Mod_init 116 = .ok (.sipush 4100, 3) := by decide +kernel
theorem d_Mod_init_119 : decode b_Mod_init 119 = .ok (.newarray .int, 2) := by decide +kernel
theorem d_Mod_init_121 : decode b_Mod_init 121 = .ok (.putfield 50, 3) := by decide +kernel
theorem d_Mod_init_124 : decode b_Mod_init 124 = .ok (.aload_n 0, 1) := by decide +kernel
theorem d_Mod_init_125 : decode b_Mod_init 125 = .ok (.sipush 4100, 3) := by decide +kernel
theorem d_Mod_init_128 : decode b_Mod_init 128 = .ok (.newarray .int, 2) := by decide +kernel
theorem d_Mod_init_130 : decode b_Mod_init 130 = .ok (.putfield 53, 3) := by decide +kernel
theorem d_Mod_init_133 : decode b_Mod_init 133 = .ok (.aload_n 0, 1) := by decide +kernel
theorem d_Mod_init_134 : decode b_Mod_init 134 = .ok (.sipush 4100, 3) := by decide +kernel
theorem d_Mod_init_137 : decode b_Mod_init 137 = .ok (.newarray .int, 2) := by decide +kernel
theorem d_Mod_init_139 : decode b_Mod_init 139 = .ok (.putfield 56, 3) := by decide +kernel
theorem d_Mod_init_142 : decode b_Mod_init 142 = .ok (.aload_n 0, 1) := by decide +kernel
theorem d_Mod_init_143 : decode b_Mod_init 143 = .ok (.sipush 4100, 3) := by decide +kernel
theorem d_Mod_init_146 : decode b_Mod_init 146 = .ok (.newarray .long, 2) := by decide +kernel
theorem d_Mod_init_148 : decode b_Mod_init 148 = .ok (.putfield 59, 3) := by decide +kernel
theorem d_Mod_init_151 : decode b_Mod_init 151 = .ok (.aload_n 0, 1) := by decide +kernel
theorem d_Mod_init_152 : decode b_Mod_init 152 = .ok (.sipush 10000, 3) := by decide +kernel
theorem d_Mod_init_155 : decode b_Mod_init 155 = .ok (.newarray .int, 2) := by decide +kernel
theorem d_Mod_init_157 : decode b_Mod_init 157 = .ok (.putfield 63, 3) := by decide +kernel
theorem d_Mod_init_160 : decode b_Mod_init 160 = .ok (.aload_n 0, 1) := by decide +kernel
theorem d_Mod_init_161 : decode b_Mod_init 161 = .ok (.sipush 10000, 3) := by decide +kernel
theorem d_Mod_init_164 : decode b_Mod_init 164 = .ok (.newarray .int, 2) := by decide +kernel
theorem d_Mod_init_166 : decode b_Mod_init 166 = .ok (.putfield 66, 3) := by decide +kernel
theorem d_Mod_init_169 : decode b_Mod_init 169 = .ok (.aload_n 0, 1) := by decide +kernel
theorem d_Mod_init_170 : decode b_Mod_init 170 = .ok (.sipush 10000, 3) := by decide +kernel
theorem d_Mod_init_173 : decode b_Mod_init 173 = .ok (.newarray .int, 2) := by decide +kernel
theorem d_Mod_init_175 : decode b_Mod_init 175 = .ok (.putfield 69, 3) := by decide +kernel
theorem d_Mod_init_178 : decode b_Mod_init 178 = .ok (.aload_n 0, 1) := by decide +kernel
theorem d_Mod_init_179 : decode b_Mod_init 179 = .ok (.sipush 10000, 3) := by decide +kernel
theorem d_Mod_init_182 : decode b_Mod_init 182 = .ok (.newarray .int, 2) := by decide +kernel
theorem d_Mod_init_184 : decode b_Mod_init 184 = .ok (.putfield 72, 3) := by decide +kernel
theorem d_Mod_init_187 : decode b_Mod_init 187 = .ok (.aload_n 0, 1) := by decide +kernel
theorem d_Mod_init_188 : decode b_Mod_init 188 = .ok (.sipush 10000, 3) := by decide +kernel
theorem d_Mod_init_191 : decode b_Mod_init 191 = .ok (.newarray .int, 2) := by decide +kernel
theorem d_Mod_init_193 : decode b_Mod_init 193 = .ok (.putfield 75, 3) := by decide +kernel
theorem d_Mod_init_196 : decode b_Mod_init 196 = .ok (.aload_n 0, 1) := by decide +kernel
theorem d_Mod_init_197 : decode b_Mod_init 197 = .ok (.sipush 2001, 3) := by decide +kernel
theorem d_Mod_init_200 : decode b_Mod_init 200 = .ok (.newarray .int, 2) := by decide +kernel
theorem d_Mod_init_202 : decode b_Mod_init 202 = .ok (.putfield 78, 3) := by decide +kernel
theorem d_Mod_init_205 : decode b_Mod_init 205 = .ok (.aload_n 0, 1) := by decide +kernel
theorem d_Mod_init_206 : decode b_Mod_init 206 = .ok (.ldc 81, 2) := by decide +kernel
theorem d_Mod_init_208 : decode b_Mod_init 208 = .ok (.newarray .int, 2) := by decide +kernel
theorem d_Mod_init_210 : decode b_Mod_init 210 = .ok (.putfield 82, 3) := by decide +kernel
theorem d_Mod_init_213 : decode b_Mod_init 213 = .ok (.aload_n 0, 1) := by decide +kernel
theorem d_Mod_init_214 : decode b_Mod_init 214 = .ok (.sipush 10000, 3) := by decide +kernel
theorem d_Mod_init_217 : decode b_Mod_init 217 = .ok (.newarray .long, 2) := by decide +kernel
theorem d_Mod_init_219 : decode b_Mod_init 219 = .ok (.putfield 85, 3) := by decide +kernel
theorem d_Mod_init_222 : decode b_Mod_init 222 = .ok (.aload_n 0, 1) := by decide +kernel
theorem d_Mod_init_223 : decode b_Mod_init 223 = .ok (.sipush 1000, 3) := by decide +kernel
theorem d_Mod_init_226 : decode b_Mod_init 226 = .ok (.newarray .int, 2) := by decide +kernel
theorem d_Mod_init_228 : decode b_Mod_init 228 = .ok (.putfield 88, 3) := by decide +kernel
theorem d_Mod_init_231 : decode b_Mod_init 231 = .ok (.aload_n 0, 1) := by decide +kernel
theorem d_Mod_init_232 : decode b_Mod_init 232 = .ok (.sipush 1000, 3) := by decide +kernel
theorem d_Mod_init_235 : decode b_Mod_init 235 = .ok (.newarray .int, 2) := by decide +kernel
theorem d_Mod_init_237 : decode b_Mod_init 237 = .ok (.putfield 91, 3) := by decide +kernel
theorem d_Mod_init_240 : decode b_Mod_init 240 = .ok (.aload_n 0, 1) := by decide +kernel
theorem d_Mod_init_241 : decode b_Mod_init 241 = .ok (.sipush 1008, 3) := by decide +kernel
theorem d_Mod_init_244 : decode b_Mod_init 244 = .ok (.newarray .int, 2) := by decide +kernel
theorem d_Mod_init_246 : decode b_Mod_init 246 = .ok (.putfield 94, 3) := by decide +kernel
theorem d_Mod_init_249 : decode b_Mod_init 249 = .ok (.aload_n 0, 1) := by decide +kernel
theorem d_Mod_init_250 : decode b_Mod_init 250 = .ok (.sipush 1008, 3) := by decide +kernel
theorem d_Mod_init_253 : decode b_Mod_init 253 = .ok (.newarray .int, 2) := by decide +kernel
theorem d_Mod_init_255 : decode b_Mod_init 255 = .ok (.putfield 97, 3) := by decide +kernel
theorem d_Mod_init_258 : decode b_Mod_init 258 = .ok (.aload_n 0, 1) := by decide +kernel
theorem d_Mod_init_259 : decode b_Mod_init 259 = .ok (.sipush 1000, 3) := by decide +kernel
theorem d_Mod_init_262 : decode b_Mod_init 262 = .ok (.newarray .long, 2) := by decide +kernel
theorem d_Mod_init_264 : decode b_Mod_init 264 = .ok (.putfield 100, 3) := by decide +kernel
theorem d_Mod_init_267 : decode b_Mod_init 267 = .ok (.aload_n 0, 1) := by decide +kernel
theorem d_Mod_init_268 : decode b_Mod_init 268 = .ok (.sipush 1000, 3) := by decide +kernel
theorem d_Mod_init_271 : decode b_Mod_init 271 = .ok (.newarray .long, 2) := by decide +kernel
theorem d_Mod_init_273 : decode b_Mod_init 273 = .ok (.putfield 103, 3) := by decide +kernel
theorem d_Mod_init_276 : decode b_Mod_init 276 = .ok (.aload_n 0, 1) := by decide +kernel
theorem d_Mod_init_277 : decode b_Mod_init 277 = .ok (.sipush 1000, 3) := by decide +kernel
theorem d_Mod_init_280 : decode b_Mod_init 280 = .ok (.newarray .long, 2) := by decide +kernel
theorem d_Mod_init_282 : decode b_Mod_init 282 = .ok (.putfield 106, 3) := by decide +kernel
theorem d_Mod_init_285 : decode b_Mod_init 285 = .ok (.aload_n 0, 1) := by decide +kernel
theorem d_Mod_init_286 : decode b_Mod_init 286 = .ok (.sipush 1001, 3) := by decide +kernel
theorem d_Mod_init_289 : decode b_Mod_init 289 = .ok (.newarray .int, 2) := by decide +kernel
theorem d_Mod_init_291 : decode b_Mod_init 291 = .ok (.putfield 109, 3) := by decide +kernel
theorem d_Mod_init_294 : decode b_Mod_init 294 = .ok (.aload_n 0, 1) := by decide +kernel
theorem d_Mod_init_295 : decode b_Mod_init 295 = .ok (.sipush 1001, 3) := by decide +kernel
theorem d_Mod_init_298 : decode b_Mod_init 298 = .ok (.newarray .int, 2) := by decide +kernel
theorem d_Mod_init_300 : decode b_Mod_init 300 = .ok (.putfield 112, 3) := by decide +kernel
theorem d_Mod_init_303 : decode b_Mod_init 303 = .ok (.aload_n 0, 1) := by decide +kernel
theorem d_Mod_init_304 : decode b_Mod_init 304 = .ok (.sipush 1001, 3) := by decide +kernel
theorem d_Mod_init_307 : decode b_Mod_init 307 = .ok (.newarray .int, 2) := by decide +kernel
theorem d_Mod_init_309 : decode b_Mod_init 309 = .ok (.putfield 115, 3) := by decide +kernel
theorem d_Mod_init_312 : decode b_Mod_init 312 = .ok (.aload_n 0, 1) := by decide +kernel
theorem d_Mod_init_313 : decode b_Mod_init 313 = .ok (.sipush 20000, 3) := by decide +kernel
theorem d_Mod_init_316 : decode b_Mod_init 316 = .ok (.newarray .int, 2) := by decide +kernel
theorem d_Mod_init_318 : decode b_Mod_init 318 = .ok (.putfield 118, 3) := by decide +kernel
theorem d_Mod_init_321 : decode b_Mod_init 321 = .ok (.aload_n 0, 1) := by decide +kernel
theorem d_Mod_init_322 : decode b_Mod_init 322 = .ok (.sipush 20000, 3) := by decide +kernel
theorem d_Mod_init_325 : decode b_Mod_init 325 = .ok (.newarray .int, 2) := by decide +kernel
theorem d_Mod_init_327 : decode b_Mod_init 327 = .ok (.putfield 121, 3) := by decide +kernel
theorem d_Mod_init_330 : decode b_Mod_init 330 = .ok (.aload_n 0, 1) := by decide +kernel
theorem d_Mod_init_331 : decode b_Mod_init 331 = .ok (.sipush 20000, 3) := by decide +kernel
theorem d_Mod_init_334 : decode b_Mod_init 334 = .ok (.newarray .int, 2) := by decide +kernel
theorem d_Mod_init_336 : decode b_Mod_init 336 = .ok (.putfield 124, 3) := by decide +kernel
theorem d_Mod_init_339 : decode b_Mod_init 339 = .ok (.aload_n 0, 1) := by decide +kernel
theorem d_Mod_init_340 : decode b_Mod_init 340 = .ok (.ldc 81, 2) := by decide +kernel
theorem d_Mod_init_342 : decode b_Mod_init 342 = .ok (.newarray .int, 2) := by decide +kernel
theorem d_Mod_init_344 : decode b_Mod_init 344 = .ok (.putfield 127, 3) := by decide +kernel
theorem d_Mod_init_347 : decode b_Mod_init 347 = .ok (.aload_n 0, 1) := by decide +kernel
theorem d_Mod_init_348 : decode b_Mod_init 348 = .ok (.ldc 81, 2) := by decide +kernel
theorem d_Mod_init_350 : decode b_Mod_init 350 = .ok (.newarray .int, 2) := by decide +kernel
theorem d_Mod_init_352 : decode b_Mod_init 352 = .ok (.putfield 130, 3) := by decide +kernel
theorem d_Mod_init_355 : decode b_Mod_init 355 = .ok (.aload_n 0, 1) := by decide +kernel
theorem d_Mod_init_356 : decode b_Mod_init 356 = .ok (.ldc 7, 2) := by decide +kernel
theorem d_Mod_init_358 : decode b_Mod_init 358 = .ok (.newarray .int, 2) := by decide +kernel
theorem d_Mod_init_360 : decode b_Mod_init 360 = .ok (.putfield 133, 3) := by decide +kernel
theorem d_Mod_init_363 : decode b_Mod_init 363 = .ok (.aload_n 0, 1) := by decide +kernel
theorem d_Mod_init_364 : decode b_Mod_init 364 = .ok (.ldc 7, 2) := by decide +kernel
theorem d_Mod_init_366 : decode b_Mod_init 366 = .ok (.newarray .int, 2) := by decide +kernel
theorem d_Mod_init_368 : decode b_Mod_init 368 = .ok (.putfield 136, 3) := by decide +kernel
theorem d_Mod_init_371 : decode b_Mod_init 371 = .ok (.aload_n 0, 1) := by decide +kernel
theorem d_Mod_init_372 : decode b_Mod_init 372 = .ok (.sipush 2000, 3) := by decide +kernel
theorem d_Mod_init_375 : decode b_Mod_init 375 = .ok (.newarray .long, 2) := by decide +kernel
theorem d_Mod_init_377 : decode b_Mod_init 377 = .ok (.putfield 139, 3) := by decide +kernel
theorem d_Mod_init_380 : decode b_Mod_init 380 = .ok (.aload_n 0, 1) := by decide +kernel
theorem d_Mod_init_381 : decode b_Mod_init 381 = .ok (.sipush 1008, 3) := by decide +kernel
theorem d_Mod_init_384 : decode b_Mod_init 384 = .ok (.newarray .int, 2) := by decide +kernel
theorem d_Mod_init_386 : decode b_Mod_init 386 = .ok (.putfield 142, 3) := by decide +kernel
theorem d_Mod_init_389 : decode b_Mod_init 389 = .ok (.aload_n 0, 1) := by decide +kernel
theorem d_Mod_init_390 : decode b_Mod_init 390 = .ok (.sipush 1000, 3) := by decide +kernel
theorem d_Mod_init_393 : decode b_Mod_init 393 = .ok (.newarray .int, 2) := by decide +kernel
theorem d_Mod_init_395 : decode b_Mod_init 395 = .ok (.putfield 145, 3) := by decide +kernel
theorem d_Mod_init_398 : decode b_Mod_init 398 = .ok (.aload_n 0, 1) := by decide +kernel
theorem d_Mod_init_399 : decode b_Mod_init 399 = .ok (.sipush 1000, 3) := by decide +kernel
theorem d_Mod_init_402 : decode b_Mod_init 402 = .ok (.newarray .int, 2) := by decide +kernel
theorem d_Mod_init_404 : decode b_Mod_init 404 = .ok (.putfield 148, 3) := by decide +kernel
theorem d_Mod_init_407 : decode b_Mod_init 407 = .ok (.aload_n 0, 1) := by decide +kernel
theorem d_Mod_init_408 : decode b_Mod_init 408 = .ok (.iconst 2, 1) := by decide +kernel
theorem d_Mod_init_409 : decode b_Mod_init 409 = .ok (.newarray .long, 2) := by decide +kernel
theorem d_Mod_init_411 : decode b_Mod_init 411 = .ok (.putfield 151, 3) := by decide +kernel
theorem d_Mod_init_414 : decode b_Mod_init 414 = .ok (.aload_n 0, 1) := by decide +kernel
theorem d_Mod_init_415 : decode b_Mod_init 415 = .ok (.iconst 2, 1) := by decide +kernel
theorem d_Mod_init_416 : decode b_Mod_init 416 = .ok (.newarray .int, 2) := by decide +kernel
theorem d_Mod_init_418 : decode b_Mod_init 418 = .ok (.putfield 154, 3) := by decide +kernel
theorem d_Mod_init_421 : decode b_Mod_init 421 = .ok (.aload_n 0, 1) := by decide +kernel
theorem d_Mod_init_422 : decode b_Mod_init 422 = .ok (.sipush 512, 3) := by decide +kernel
theorem d_Mod_init_425 : decode b_Mod_init 425 = .ok (.newarray .int, 2) := by decide +kernel
theorem d_Mod_init_427 : decode b_Mod_init 427 = .ok (.putfield 157, 3) := by decide +kernel
theorem d_Mod_init_430 : decode b_Mod_init 430 = .ok (.aload_n 0, 1) := by decide +kernel
theorem d_Mod_init_431 : decode b_Mod_init 431 = .ok (.sipush 13400, 3) := by decide +kernel
theorem d_Mod_init_434 : decode b_Mod_init 434 = .ok (.newarray .int, 2) := by decide +kernel
theorem d_Mod_init_436 : decode b_Mod_init 436 = .ok (.putfield 160, 3) := by decide +kernel
theorem d_Mod_init_439 : decode b_Mod_init 439 = .ok (.aload_n 0, 1) := by decide +kernel
theorem d_Mod_init_440 : decode b_Mod_init 440 = .ok (.sipush 13400, 3) := by decide +kernel
theorem d_Mod_init_443 : decode b_Mod_init 443 = .ok (.newarray .int, 2) := by decide +kernel
theorem d_Mod_init_445 : decode b_Mod_init 445 = .ok (.putfield 163, 3) := by decide +kernel
theorem d_Mod_init_448 : decode b_Mod_init 448 = .ok (.aload_n 0, 1) := by decide +kernel
theorem d_Mod_init_449 : decode b_Mod_init 449 = .ok (.iconst 3, 1) := by decide +kernel
theorem d_Mod_init_450 : decode b_Mod_init 450 = .ok (.newarray .int, 2) := by decide +kernel
theorem d_Mod_init_452 : decode b_Mod_init 452 = .ok (.putfield 166, 3) := by decide +kernel
theorem d_Mod_init_455 : decode b_Mod_init 455 = .ok (.aload_n 0, 1) := by decide +kernel
theorem d_Mod_init_456 : decode b_Mod_init 456 = .ok (.sipush 500, 3) := by decide +kernel
theorem d_Mod_init_459 : decode b_Mod_init 459 = .ok (.newarray .int, 2) := by decide +kernel
theorem d_Mod_init_461 : decode b_Mod_init 461 = .ok (.putfield 169, 3) := by decide +kernel
theorem d_Mod_init_464 : decode b_Mod_init 464 = .ok (.aload_n 0, 1) := by decide +kernel
theorem d_Mod_init_465 : decode b_Mod_init 465 = .ok (.ldc 172, 2) := by decide +kernel
theorem d_Mod_init_467 : decode b_Mod_init 467 = .ok (.newarray .long, 2) := by decide +kernel
theorem d_Mod_init_469 : decode b_Mod_init 469 = .ok (.putfield 173, 3) := by decide +kernel
theorem d_Mod_init_472 : decode b_Mod_init 472 = .ok (.aload_n 0, 1) := by decide +kernel
theorem d_Mod_init_473 : decode b_Mod_init 473 = .ok (.ldc 172, 2) := by decide +kernel
theorem d_Mod_init_475 : decode b_Mod_init 475 = .ok (.newarray .int, 2) := by decide +kernel
theorem d_Mod_init_477 : decode b_Mod_init 477 = .ok (.putfield 176, 3) := by decide +kernel
theorem d_Mod_init_480 : decode b_Mod_init 480 = .ok (.aload_n 0, 1) := by decide +kernel
theorem d_Mod_init_481 : decode b_Mod_init 481 = .ok (.ldc 172, 2) := by decide +kernel
theorem d_Mod_init_483 : decode b_Mod_init 483 = .ok (.newarray .int, 2) := by decide +kernel
theorem d_Mod_init_485 : decode b_Mod_init 485 = .ok (.putfield 179, 3) := by decide +kernel
theorem d_Mod_init_488 : decode b_Mod_init 488 = .ok (.aload_n 0, 1) := by decide +kernel
theorem d_Mod_init_489 : decode b_Mod_init 489 = .ok (.ldc 182, 2) := by decide +kernel
theorem d_Mod_init_491 : decode b_Mod_init 491 = .ok (.newarray .int, 2) := by decide +kernel
theorem d_Mod_init_493 : decode b_Mod_init 493 = .ok (.putfield 183, 3) := by decide +kernel
theorem d_Mod_init_496 : decode b_Mod_init 496 = .ok (.aload_n 0, 1) := by decide +kernel
theorem d_Mod_init_497 : decode b_Mod_init 497 = .ok (.sipush 10000, 3) := by decide +kernel
theorem d_Mod_init_500 : decode b_Mod_init 500 = .ok (.newarray .int, 2) := by decide +kernel
theorem d_Mod_init_502 : decode b_Mod_init 502 = .ok (.putfield 186, 3) := by decide +kernel
theorem d_Mod_init_505 : decode b_Mod_init 505 = .ok (.aload_n 0, 1) := by decide +kernel
theorem d_Mod_init_506 : decode b_Mod_init 506 = .ok (.sipush 10000, 3) := by decide +kernel
theorem d_Mod_init_509 : decode b_Mod_init 509 = .ok (.newarray .int, 2) := by decide +kernel
theorem d_Mod_init_511 : decode b_Mod_init 511 = .ok (.putfield 189, 3) := by decide +kernel
theorem d_Mod_init_514 : decode b_Mod_init 514 = .ok (.aload_n 0, 1) := by decide +kernel
theorem d_Mod_init_515 : decode b_Mod_init 515 = .ok (.sipush 10000, 3) := by decide +kernel
theorem d_Mod_init_518 : decode b_Mod_init 518 = .ok (.newarray .int, 2) := by decide +kernel
theorem d_Mod_init_520 : decode b_Mod_init 520 = .ok (.putfield 192, 3) := by decide +kernel
theorem d_Mod_init_523 : decode b_Mod_init 523 = .ok (.aload_n 0, 1) := by decide +kernel
theorem d_Mod_init_524 : decode b_Mod_init 524 = .ok (.sipush 13400, 3) := by decide +kernel
theorem d_Mod_init_527 : decode b_Mod_init 527 = .ok (.newarray .int, 2) := by decide +kernel
theorem d_Mod_init_529 : decode b_Mod_init 529 = .ok (.putfield 195, 3) := by decide +kernel
theorem d_Mod_init_532 : decode b_Mod_init 532 = .ok (.aload_n 0, 1) := by decide +kernel
theorem d_Mod_init_533 : decode b_Mod_init 533 = .ok (.sipush 13400, 3) := by decide +kernel
theorem d_Mod_init_536 : decode b_Mod_init 536 = .ok (.newarray .int, 2) := by decide +kernel
theorem d_Mod_init_538 : decode b_Mod_init 538 = .ok (.putfield 198, 3) := by decide +kernel
theorem d_Mod_init_541 : decode b_Mod_init 541 = .ok (.aload_n 0, 1) := by decide +kernel
theorem d_Mod_init_542 : decode b_Mod_init 542 = .ok (.sipush 13400, 3) := by decide +kernel
theorem d_Mod_init_545 : decode b_Mod_init 545 = .ok (.newarray .int, 2) := by decide +kernel
theorem d_Mod_init_547 : decode b_Mod_init 547 = .ok (.putfield 201, 3) := by decide +kernel
theorem d_Mod_init_550 : decode b_Mod_init 550 = .ok (.aload_n 0, 1) := by decide +kernel
theorem d_Mod_init_551 : decode b_Mod_init 551 = .ok (.sipush 13400, 3) := by decide +kernel
theorem d_Mod_init_554 : decode b_Mod_init 554 = .ok (.newarray .int, 2) := by decide +kernel
theorem d_Mod_init_556 : decode b_Mod_init 556 = .ok (.putfield 204, 3) := by decide +kernel
theorem d_Mod_init_559 : decode b_Mod_init 559 = .ok (.aload_n 0, 1) := by decide +kernel
theorem d_Mod_init_560 : decode b_Mod_init 560 = .ok (.sipush 13401, 3) := by decide +kernel
theorem d_Mod_init_563 : decode b_Mod_init 563 = .ok (.newarray .int, 2) := by decide +kernel
theorem d_Mod_init_565 : decode b_Mod_init 565 = .ok (.putfield 207, 3) := by decide +kernel
theorem d_Mod_init_568 : decode b_Mod_init 568 = .ok (.aload_n 0, 1) := by decide +kernel
theorem d_Mod_init_569 : decode b_Mod_init 569 = .ok (.sipush 10000, 3) := by decide +kernel
theorem d_Mod_init_572 : decode b_Mod_init 572 = .ok (.newarray .int, 2) := by decide +kernel
theorem d_Mod_init_574 : decode b_Mod_init 574 = .ok (.putfield 210, 3) := by decide +kernel
theorem d_Mod_init_577 : decode b_Mod_init 577 = .ok (.aload_n 0, 1) := by decide +kernel
theorem d_Mod_init_578 : decode b_Mod_init 578 = .ok (.sipush 10000, 3) := by decide +kernel
theorem d_Mod_init_581 : decode b_Mod_init 581 = .ok (.newarray .int, 2) := by decide +kernel
theorem d_Mod_init_583 : decode b_Mod_init 583 = .ok (.putfield 213, 3) := by decide +kernel
theorem d_Mod_init_586 : decode b_Mod_init 586 = .ok (.aload_n 0, 1) := by decide +kernel
theorem d_Mod_init_587 : decode b_Mod_init 587 = .ok (.sipush 10000, 3) := by decide +kernel
theorem d_Mod_init_590 : decode b_Mod_init 590 = .ok (.newarray .int, 2) := by decide +kernel
theorem d_Mod_init_592 : decode b_Mod_init 592 = .ok (.putfield 216, 3) := by decide +kernel
theorem d_Mod_init_595 : decode b_Mod_init 595 = .ok (.aload_n 0, 1) := by decide +kernel
theorem d_Mod_init_596 : decode b_Mod_init 596 = .ok (.sipush 10000, 3) := by decide +kernel
theorem d_Mod_init_599 : decode b_Mod_init 599 = .ok (.newarray .int, 2) := by decide +kernel
theorem d_Mod_init_601 : decode b_Mod_init 601 = .ok (.putfield 219, 3) := by decide +kernel
theorem d_Mod_init_604 : decode b_Mod_init 604 = .ok (.aload_n 0, 1) := by decide +kernel
theorem d_Mod_init_605 : decode b_Mod_init 605 = .ok (.sipush 10000, 3) := by decide +kernel
theorem d_Mod_init_608 : decode b_Mod_init 608 = .ok (.newarray .int, 2) := by decide +kernel
theorem d_Mod_init_610 : decode b_Mod_init 610 = .ok (.putfield 222, 3) := by decide +kernel
theorem d_Mod_init_613 : decode b_Mod_init 613 = .ok (.aload_n 0, 1) := by decide +kernel
theorem d_Mod_init_614 : decode b_Mod_init 614 = .ok (.sipush 10000, 3) := by decide +kernel
theorem d_Mod_init_617 : decode b_Mod_init 617 = .ok (.newarray .int, 2) := by decide +kernel
theorem d_Mod_init_619 : decode b_Mod_init 619 = .ok (.putfield 225, 3) := by decide +kernel
theorem d_Mod_init_622 : decode b_Mod_init 622 = .ok (.aload_n 0, 1) := by decide +kernel
theorem d_Mod_init_623 : decode b_Mod_init 623 = .ok (.sipush 10000, 3) := by decide +kernel
theorem d_Mod_init_626 : decode b_Mod_init 626 = .ok (.newarray .int, 2) := by decide +kernel
theorem d_Mod_init_628 : decode b_Mod_init 628 = .ok (.putfield 228, 3) := by decide +kernel
theorem d_Mod_init_631 : decode b_Mod_init 631 = .ok (.aload_n 0, 1) := by decide +kernel
theorem d_Mod_init_632 : decode b_Mod_init 632 = .ok (.sipush 10000, 3) := by decide +kernel
theorem d_Mod_init_635 : decode b_Mod_init 635 = .ok (.newarray .int, 2) := by decide +kernel
theorem d_Mod_init_637 : decode b_Mod_init 637 = .ok (.putfield 231, 3) := by decide +kernel
theorem d_Mod_init_640 : decode b_Mod_init 640 = .ok (.aload_n 0, 1) := by decide +kernel
theorem d_Mod_init_641 : decode b_Mod_init 641 = .ok (.sipush 10000, 3) := by decide +kernel
theorem d_Mod_init_644 : decode b_Mod_init 644 = .ok (.newarray .int, 2) := by decide +kernel
theorem d_Mod_init_646 : decode b_Mod_init 646 = .ok (.putfield 234, 3) := by decide +kernel
theorem d_Mod_init_649 : decode b_Mod_init 649 = .ok (.aload_n 0, 1) := by decide +kernel
theorem d_Mod_init_650 : decode b_Mod_init 650 = .ok (.ldc 237, 2) := by decide +kernel
theorem d_Mod_init_652 : decode b_Mod_init 652 = .ok (.newarray .byte, 2) := by decide +kernel
theorem d_Mod_init_654 : decode b_Mod_init 654 = .ok (.putfield 238, 3) := by decide +kernel
theorem d_Mod_init_657 : decode b_Mod_init 657 = .ok (.aload_n 0, 1) := by decide +kernel
theorem d_Mod_init_658 : decode b_Mod_init 658 = .ok (.bipush 64, 2) := by decide +kernel
theorem d_Mod_init_660 : decode b_Mod_init 660 = .ok (.newarray .int, 2) := by decide +kernel
theorem d_Mod_init_662 : decode b_Mod_init 662 = .ok (.putfield 242, 3) := by decide +kernel
theorem d_Mod_init_665 : decode b_Mod_init 665 = .ok (.aload_n 0, 1) := by decide +kernel
theorem d_Mod_init_666 : decode b_Mod_init 666 = .ok (.bipush 64, 2) := by decide +kernel
theorem d_Mod_init_668 : decode b_Mod_init 668 = .ok (.newarray .int, 2) := by decide +kernel
theorem d_Mod_init_670 : decode b_Mod_init 670 = .ok (.putfield 245, 3) := by decide +kernel
theorem d_Mod_init_673 : decode b_Mod_init 673 = .ok (.aload_n 0, 1) := by decide +kernel
theorem d_Mod_init_674 : decode b_Mod_init 674 = .ok (.bipush 64, 2) := by decide +kernel
theorem d_Mod_init_676 : decode b_Mod_init 676 = .ok (.newarray .boolean, 2) := by decide +kernel
theorem d_Mod_init_678 : decode b_Mod_init 678 = .ok (.putfield 248, 3) := by decide +kernel
theorem d_Mod_init_681 : decode b_Mod_init 681 = .ok (.aload_n 0, 1) := by decide +kernel
theorem d_Mod_init_682 : decode b_Mod_init 682 = .ok (.bipush 12, 2) := by decide +kernel
theorem d_Mod_init_684 : decode b_Mod_init 684 = .ok (.newarray .int, 2) := by decide +kernel
theorem d_Mod_init_686 : decode b_Mod_init 686 = .ok (.putfield 252, 3) := by decide +kernel
theorem d_Mod_init_689 : decode b_Mod_init 689 = .ok (.aload_n 0, 1) := by decide +kernel
theorem d_Mod_init_690 : decode b_Mod_init 690 = .ok (.bipush 48, 2) := by decide +kernel
theorem d_Mod_init_692 : decode b_Mod_init 692 = .ok (.newarray .int, 2) := by decide +kernel
theorem d_Mod_init_694 : decode b_Mod_init 694 = .ok (.putfield 255, 3) := by decide +kernel
theorem d_Mod_init_697 : decode b_Mod_init 697 = .ok (.aload_n 0, 1) := by decide +kernel
theorem d_Mod_init_698 : decode b_Mod_init 698 = .ok (.bipush 48, 2) := by decide +kernel
theorem d_Mod_init_700 : decode b_Mod_init 700 = .ok (.newarray .int, 2) := by decide +kernel
theorem d_Mod_init_702 : decode b_Mod_init 702 = .ok (.putfield 258, 3) := by decide +kernel
theorem d_Mod_init_705 : decode b_Mod_init 705 = .ok (.aload_n 0, 1) := by decide +kernel
theorem d_Mod_init_706 : decode b_Mod_init 706 = .ok (.bipush 48, 2) := by decide +kernel
theorem d_Mod_init_708 : decode b_Mod_init 708 = .ok (.newarray .int, 2) := by decide +kernel
theorem d_Mod_init_710 : decode b_Mod_init 710 = .ok (.putfield 261, 3) := by decide +kernel
theorem d_Mod_init_713 : decode b_Mod_init 713 = .ok (.aload_n 0, 1) := by decide +kernel
theorem d_Mod_init_714 : decode b_Mod_init 714 = .ok (.bipush 24, 2) := by decide +kernel
theorem d_Mod_init_716 : decode b_Mod_init 716 = .ok (.newarray .int, 2) := by decide +kernel
theorem d_Mod_init_718 : decode b_Mod_init 718 = .ok (.putfield 264, 3) := by decide +kernel
theorem d_Mod_init_721 : decode b_Mod_init 721 = .ok (.aload_n 0, 1) := by decide +kernel
theorem d_Mod_init_722 : decode b_Mod_init 722 = .ok (.sipush 192, 3) := by decide +kernel
theorem d_Mod_init_725 : decode b_Mod_init 725 = .ok (.newarray .int, 2) := by decide +kernel
theorem d_Mod_init_727 : decode b_Mod_init 727 = .ok (.putfield 267, 3) := by decide +kernel
theorem d_Mod_init_730 : decode b_Mod_init 730 = .ok (.aload_n 0, 1) := by decide +kernel
theorem d_Mod_init_731 : decode b_Mod_init 731 = .ok (.sipush 192, 3) := by decide +kernel
theorem d_Mod_init_734 : decode b_Mod_init 734 = .ok (.newarray .int, 2) := by decide +kernel
theorem d_Mod_init_736 : decode b_Mod_init 736 = .ok (.putfield 270, 3) := by decide +kernel
theorem d_Mod_init_739 : decode b_Mod_init 739 = .ok (.aload_n 0, 1) := by decide +kernel
theorem d_Mod_init_740 : decode b_Mod_init 740 = .ok (.sipush 192, 3) := by decide +kernel
theorem d_Mod_init_743 : decode b_Mod_init 743 = .ok (.newarray .int, 2) := by decide +kernel
theorem d_Mod_init_745 : decode b_Mod_init 745 = .ok (.putfield 273, 3) := by decide +kernel
theorem d_Mod_init_748 : decode b_Mod_init 748 = .ok (.aload_n 0, 1) := by decide +kernel
theorem d_Mod_init_749 : decode b_Mod_init 749 = .ok (.sipush 192, 3) := by decide +kernel
theorem d_Mod_init_752 : decode b_Mod_init 752 = .ok (.newarray .int, 2) := by decide +kernel
theorem d_Mod_init_754 : decode b_Mod_init 754 = .ok (.putfield 276, 3) := by decide +kernel
theorem d_Mod_init_757 : decode b_Mod_init 757 = .ok (.aload_n 0, 1) := by decide +kernel
theorem d_Mod_init_758 : decode b_Mod_init 758 = .ok (.sipush 192, 3) := by decide +kernel
theorem d_Mod_init_761 : decode b_Mod_init 761 = .ok (.newarray .int, 2) := by decide +kernel
theorem d_Mod_init_763 : decode b_Mod_init 763 = .ok (.putfield 279, 3) := by decide +kernel
theorem d_Mod_init_766 : decode b_Mod_init 766 = .ok (.aload_n 0, 1) := by decide +kernel
theorem d_Mod_init_767 : decode b_Mod_init 767 = .ok (.sipush 192, 3) := by decide +kernel
theorem d_Mod_init_770 : decode b_Mod_init 770 = .ok (.newarray .int, 2) := by decide +kernel
theorem d_Mod_init_772 : decode b_Mod_init 772 = .ok (.putfield 282, 3) := by decide +kernel
theorem d_Mod_init_775 : decode b_Mod_init 775 = .ok (.aload_n 0, 1) := by decide +kernel
theorem d_Mod_init_776 : decode b_Mod_init 776 = .ok (.sipush 192, 3) := by decide +kernel
theorem d_Mod_init_779 : decode b_Mod_init 779 = .ok (.newarray .int, 2) := by decide +kernel
theorem d_Mod_init_781 : decode b_Mod_init 781 = .ok (.putfield 285, 3) := by decide +kernel
theorem d_Mod_init_784 : decode b_Mod_init 784 = .ok (.aload_n 0, 1) := by decide +kernel
theorem d_Mod_init_785 : decode b_Mod_init 785 = .ok (.sipush 192, 3) := by decide +kernel
theorem d_Mod_init_788 : decode b_Mod_init 788 = .ok (.newarray .int, 2) := by decide +kernel
theorem d_Mod_init_790 : decode b_Mod_init 790 = .ok (.putfield 288, 3) := by decide +kernel
theorem d_Mod_init_793 : decode b_Mod_init 793 = .ok (.aload_n 0, 1) := by decide +kernel
theorem d_Mod_init_794 : decode b_Mod_init 794 = .ok (.sipush 6000, 3) := by decide +kernel
theorem d_Mod_init_797 : decode b_Mod_init 797 = .ok (.newarray .int, 2) := by decide +kernel
theorem d_Mod_init_799 : decode b_Mod_init 799 = .ok (.putfield 291, 3) := by decide +kernel
theorem d_Mod_init_802 : decode b_Mod_init 802 = .ok (.aload_n 0, 1) := by decide +kernel
theorem d_Mod_init_803 : decode b_Mod_init 803 = .ok (.sipush 192, 3) := by decide +kernel
theorem d_Mod_init_806 : decode b_Mod_init 806 = .ok (.newarray .long, 2) := by decide +kernel
theorem d_Mod_init_808 : decode b_Mod_init 808 = .ok (.putfield 294, 3) := by decide +kernel
theorem d_Mod_init_811 : decode b_Mod_init 811 = .ok (.aload_n 0, 1) := by decide +kernel
theorem d_Mod_init_812 : decode b_Mod_init 812 = .ok (.bipush 120, 2) := by decide +kernel
theorem d_Mod_init_814 : decode b_Mod_init 814 = .ok (.newarray .int, 2) := by decide +kernel
theorem d_Mod_init_816 : decode b_Mod_init 816 = .ok (.putfield 297, 3) := by decide +kernel
theorem d_Mod_init_819 : decode b_Mod_init 819 = .ok (.aload_n 0, 1) := by decide +kernel
theorem d_Mod_init_820 : decode b_Mod_init 820 = .ok (.bipush 120, 2) := by decide +kernel
theorem d_Mod_init_822 : decode b_Mod_init 822 = .ok (.newarray .int, 2) := by decide +kernel
theorem d_Mod_init_824 : decode b_Mod_init 824 = .ok (.putfield 300, 3) := by decide +kernel
theorem d_Mod_init_827 : decode b_Mod_init 827 = .ok (.aload_n 0, 1) := by decide +kernel
theorem d_Mod_init_828 : decode b_Mod_init 828 = .ok (.bipush 64, 2) := by decide +kernel
theorem d_Mod_init_830 : decode b_Mod_init 830 = .ok (.newarray .int, 2) := by decide +kernel
theorem d_Mod_init_832 : decode b_Mod_init 832 = .ok (.putfield 303, 3) := by decide +kernel
theorem d_Mod_init_835 : decode b_Mod_init 835 = .ok (.aload_n 0, 1) := by decide +kernel
theorem d_Mod_init_836 : decode b_Mod_init 836 = .ok (.bipush 64, 2) := by decide +kernel
theorem d_Mod_init_838 : decode b_Mod_init 838 = .ok (.newarray .int, 2) := by decide +kernel
theorem d_Mod_init_840 : decode b_Mod_init 840 = .ok (.putfield 306, 3) := by decide +kernel
theorem d_Mod_init_843 : decode b_Mod_init 843 = .ok (.aload_n 0, 1) := by decide +kernel
theorem d_Mod_init_844 : decode b_Mod_init 844 = .ok (.bipush 64, 2) := by decide +kernel
theorem d_Mod_init_846 : decode b_Mod_init 846 = .ok (.newarray .int, 2) := by decide +kernel
theorem d_Mod_init_848 : decode b_Mod_init 848 = .ok (.putfield 309, 3) := by decide +kernel
theorem d_Mod_init_851 : decode b_Mod_init 851 = .ok (.aload_n 0, 1) := by decide +kernel
theorem d_Mod_init_852 : decode b_Mod_init 852 = .ok (.bipush 64, 2) := by decide +kernel
theorem d_Mod_init_854 : decode b_Mod_init 854 = .ok (.newarray .int, 2) := by decide +kernel
theorem d_Mod_init_856 : decode b_Mod_init 856 = .ok (.putfield 312, 3) := by decide +kernel
theorem d_Mod_init_859 : decode b_Mod_init 859 = .ok (.aload_n 0, 1) := by decide +kernel
theorem d_Mod_init_860 : decode b_Mod_init 860 = .ok (.bipush 64, 2) := by decide +kernel
theorem d_Mod_init_862 : decode b_Mod_init 862 = .ok (.newarray .int, 2) := by decide +kernel
theorem d_Mod_init_864 : decode b_Mod_init 864 = .ok (.putfield 315, 3) := by decide +kernel
theorem d_Mod_init_867 : decode b_Mod_init 867 = .ok (.aload_n 0, 1) := by decide +kernel
theorem d_Mod_init_868 : decode b_Mod_init 868 = .ok (.bipush 64, 2) := by decide +kernel
theorem d_Mod_init_870 : decode b_Mod_init 870 = .ok (.newarray .int, 2) := by decide +kernel
theorem d_Mod_init_872 : decode b_Mod_init 872 = .ok (.putfield 318, 3) := by decide +kernel
theorem d_Mod_init_875 : decode b_Mod_init 875 = .ok (.aload_n 0, 1) := by decide +kernel
theorem d_Mod_init_876 : decode b_Mod_init 876 = .ok (.bipush 64, 2) := by decide +kernel
theorem d_Mod_init_878 : decode b_Mod_init 878 = .ok (.newarray .int, 2) := by decide +kernel
theorem d_Mod_init_880 : decode b_Mod_init 880 = .ok (.putfield 321, 3) := by decide +kernel
theorem d_Mod_init_883 : decode b_Mod_init 883 = .ok (.aload_n 0, 1) := by decide +kernel
theorem d_Mod_init_884 : decode b_Mod_init 884 = .ok (.sipush 2000, 3) := by decide +kernel
theorem d_Mod_init_887 : decode b_Mod_init 887 = .ok (.newarray .int, 2) := by decide +kernel
theorem d_Mod_init_889 : decode b_Mod_init 889 = .ok (.putfield 324, 3) := by decide +kernel
theorem d_Mod_init_892 : decode b_Mod_init 892 = .ok (.aload_n 0, 1) := by decide +kernel
theorem d_Mod_init_893 : decode b_Mod_init 893 = .ok (.sipush 2000, 3) := by decide +kernel
theorem d_Mod_init_896 : decode b_Mod_init 896 = .ok (.newarray .int, 2) := by decide +kernel
theorem d_Mod_init_898 : decode b_Mod_init 898 = .ok (.putfield 327, 3) := by decide +kernel
theorem d_Mod_init_901 : decode b_Mod_init 901 = .ok (.aload_n 0, 1) := by decide +kernel
theorem d_Mod_init_902 : decode b_Mod_init 902 = .ok (.sipush 500, 3) := by decide +kernel
theorem d_Mod_init_905 : decode b_Mod_init 905 = .ok (.newarray .int, 2) := by decide +kernel
theorem d_Mod_init_907 : decode b_Mod_init 907 = .ok (.putfield 330, 3) := by decide +kernel
theorem d_Mod_init_910 : decode b_Mod_init 910 = .ok (.aload_n 0, 1) := by decide +kernel
theorem d_Mod_init_911 : decode b_Mod_init 911 = .ok (.sipush 500, 3) := by decide +kernel
theorem d_Mod_init_914 : decode b_Mod_init 914 = .ok (.newarray .int, 2) := by decide +kernel
theorem d_Mod_init_916 : decode b_Mod_init 916 = .ok (.putfield 333, 3) := by decide +kernel
theorem d_Mod_init_919 : decode b_Mod_init 919 = .ok (.aload_n 0, 1) := by decide +kernel
theorem d_Mod_init_920 : decode b_Mod_init 920 = .ok (.sipush 8000, 3) := by decide +kernel
theorem d_Mod_init_923 : decode b_Mod_init 923 = .ok (.newarray .int, 2) := by decide +kernel
theorem d_Mod_init_925 : decode b_Mod_init 925 = .ok (.putfield 336, 3) := by decide +kernel
theorem d_Mod_init_928 : decode b_Mod_init 928 = .ok (.aload_n 0, 1) := by decide +kernel
theorem d_Mod_init_929 : decode b_Mod_init 929 = .ok (.sipush 8000, 3) := by decide +kernel
theorem d_Mod_init_932 : decode b_Mod_init 932 = .ok (.newarray .int, 2) := by decide +kernel
theorem d_Mod_init_934 : decode b_Mod_init 934 = .ok (.putfield 339, 3) := by decide +kernel
theorem d_Mod_init_937 : decode b_Mod_init 937 = .ok (.aload_n 0, 1) := by decide +kernel
theorem d_Mod_init_938 : decode b_Mod_init 938 = .ok (.sipush 500, 3) := by decide +kernel
theorem d_Mod_init_941 : decode b_Mod_init 941 = .ok (.newarray .int, 2) := by decide +kernel
theorem d_Mod_init_943 : decode b_Mod_init 943 = .ok (.putfield 342, 3) := by decide +kernel
theorem d_Mod_init_946 : decode b_Mod_init 946 = .ok (.aload_n 0, 1) := by decide +kernel
theorem d_Mod_init_947 : decode b_Mod_init 947 = .ok (.sipush 500, 3) := by decide +kernel
theorem d_Mod_init_950 : decode b_Mod_init 950 = .ok (.newarray .int, 2) := by decide +kernel
theorem d_Mod_init_952 : decode b_Mod_init 952 = .ok (.putfield 345, 3) := by decide +kernel
theorem d_Mod_init_955 : decode b_Mod_init 955 = .ok (.aload_n 0, 1) := by decide +kernel
theorem d_Mod_init_956 : decode b_Mod_init 956 = .ok (.sipush 8000, 3) := by decide +kernel
theorem d_Mod_init_959 : decode b_Mod_init 959 = .ok (.newarray .int, 2) := by decide +kernel
theorem d_Mod_init_961 : decode b_Mod_init 961 = .ok (.putfield 348, 3) := by decide +kernel
theorem d_Mod_init_964 : decode b_Mod_init 964 = .ok (.aload_n 0, 1) := by decide +kernel
theorem d_Mod_init_965 : decode b_Mod_init 965 = .ok (.sipush 8000, 3) := by decide +kernel
theorem d_Mod_init_968 : decode b_Mod_init 968 = .ok (.newarray .int, 2) := by decide +kernel
theorem d_Mod_init_970 : decode b_Mod_init 970 = .ok (.putfield 351, 3) := by decide +kernel
theorem d_Mod_init_973 : decode b_Mod_init 973 = .ok (.aload_n 0, 1) := by decide +kernel
theorem d_Mod_init_974 : decode b_Mod_init 974 = .ok (.sipush 8000, 3) := by decide +kernel
theorem d_Mod_init_977 : decode b_Mod_init 977 = .ok (.newarray .long, 2) := by decide +kernel
theorem d_Mod_init_979 : decode b_Mod_init 979 = .ok (.putfield 354, 3) := by decide +kernel
theorem d_Mod_init_982 : decode b_Mod_init 982 = .ok (.aload_n 0, 1) := by decide +kernel
theorem d_Mod_init_983 : decode b_Mod_init 983 = .ok (.sipush 8000, 3) := by decide +kernel
theorem d_Mod_init_986 : decode b_Mod_init 986 = .ok (.newarray .long, 2) := by decide +kernel
theorem d_Mod_init_988 : decode b_Mod_init 988 = .ok (.putfield 357, 3) := by decide +kernel
theorem d_Mod_init_991 : decode b_Mod_init 991 = .ok (.iconst 0, 1) := by decide +kernel
theorem d_Mod_init_992 : decode b_Mod_init 992 = .ok (.istore_n 1, 1) := by decide +kernel
theorem d_Mod_init_993 : decode b_Mod_init 993 = .ok (.iload_n 1, 1) := by decide +kernel
theorem d_Mod_init_994 : decode b_Mod_init 994 = .ok (.iconst 3, 1) := by decide +kernel
theorem d_Mod_init_995 : decode b_Mod_init 995 = .ok (.if_icmp .ge 16, 3) := by decide +kernel
theorem d_Mod_init_998 : decode b_Mod_init 998 = .ok (.aload_n 0, 1) := by decide +kernel
theorem d_Mod_init_999 : decode b_Mod_init 999 = .ok (.getfield 166, 3) := by decide +kernel
theorem d_Mod_init_1002 : decode b_Mod_init 1002 = .ok (.iload_n 1, 1) := by decide +kernel
theorem d_Mod_init_1003 : decode b_Mod_init 1003 = .ok (.iconst (-1), 1) := by decide +kernel
theorem d_Mod_init_1004 : decode b_Mod_init 1004 = .ok (.iastore, 1) := by decide +kernel
theorem d_Mod_init_1005 : decode b_Mod_init 1005 = .ok (.iinc 1 1, 3) := by decide +kernel
theorem d_Mod_init_1008 : decode b_Mod_init 1008 = .ok (.goto (-15), 3) := by decide +kernel
theorem d_Mod_init_1011 : decode b_Mod_init 1011 = .ok (.return_, 1) := by decide +kernel
section
variable (l : Launch) (dC : Nat → ClassId) (dI : Nat → Nat → Nat) (cI cB cJ cZ : ClassId)

end
