theorem d_law_144 : decode b_law 144 = .ok (.aload_n 1, 1) := by decide +kernel
theorem d_law_145 : decode b_law 145 = .ok (.aload_n 0, 1) := by decide +kernel
theorem d_law_146 : decode b_law 146 = .ok (.iload_n 3, 1) := by decide +kernel
theorem d_law_147 : decode b_law 147 = .ok (.iconst 1, 1) := by decide +kernel
theorem d_law_148 : decode b_law 148 = .ok (.iadd, 1) := by decide +kernel
theorem d_law_149 : decode b_law 149 = .ok (.iaload, 1) := by decide +kernel
theorem d_law_150 : decode b_law 150 = .ok (.aload_n 0, 1) := by decide +kernel
theorem d_law_151 : decode b_law 151 = .ok (.iload_n 3, 1) := by decide +kernel
theorem d_law_152 : decode b_law 152 = .ok (.iconst 2, 1) := by decide +kernel
theorem d_law_153 : decode b_law 153 = .ok (.iadd, 1) := by decide +kernel
theorem d_law_154 : decode b_law 154 = .ok (.iaload, 1) := by decide +kernel
theorem d_law_155 : decode b_law 155 = .ok (.aload_n 0, 1) := by decide +kernel
theorem d_law_156 : decode b_law 156 = .ok (.iload_n 3, 1) := by decide +kernel
theorem d_law_157 : decode b_law 157 = .ok (.iconst 3, 1) := by decide +kernel
theorem d_law_158 : decode b_law 158 = .ok (.iadd, 1) := by decide +kernel
theorem d_law_159 : decode b_law 159 = .ok (.iaload, 1) := by decide +kernel
theorem d_law_160 : decode b_law 160 = .ok (.aload_n 0, 1) := by decide +kernel
theorem d_law_161 : decode b_law 161 = .ok (.iload_n 3, 1) := by decide +kernel
theorem d_law_162 : decode b_law 162 = .ok (.iconst 4, 1) := by decide +kernel
theorem d_law_163 : decode b_law 163 = .ok (.iadd, 1) := by decide +kernel
theorem d_law_164 : decode b_law 164 = .ok (.iaload, 1) := by decide +kernel
theorem d_law_165 : decode b_law 165 = .ok (.aload_n 0, 1) := by decide +kernel
theorem d_law_166 : decode b_law 166 = .ok (.iload_n 3, 1) := by decide +kernel
theorem d_law_167 : decode b_law 167 = .ok (.iconst 5, 1) := by decide +kernel
theorem d_law_168 : decode b_law 168 = .ok (.iadd, 1) := by decide +kernel
theorem d_law_169 : decode b_law 169 = .ok (.iaload, 1) := by decide +kernel
theorem d_law_170 : decode b_law 170 = .ok (.invokevirtual 13, 3) := by decide +kernel
theorem d_law_173 : decode b_law 173 = .ok (.aload_n 2, 1) := by decide +kernel
theorem d_law_174 : decode b_law 174 = .ok (.aload_n 0, 1) := by decide +kernel
theorem d_law_175 : decode b_law 175 = .ok (.iload_n 3, 1) := by decide +kernel
theorem d_law_176 : decode b_law 176 = .ok (.iconst 1, 1) := by decide +kernel
theorem d_law_177 : decode b_law 177 = .ok (.iadd, 1) := by decide +kernel
theorem d_law_178 : decode b_law 178 = .ok (.iaload, 1) := by decide +kernel
theorem d_law_179 : decode b_law 179 = .ok (.aload_n 0, 1) := by decide +kernel
theorem d_law_180 : decode b_law 180 = .ok (.iload_n 3, 1) := by decide +kernel
theorem d_law_181 : decode b_law 181 = .ok (.iconst 2, 1) := by decide +kernel
theorem d_law_182 : decode b_law 182 = .ok (.iadd, 1) := by decide +kernel
theorem d_law_183 : decode b_law 183 = .ok (.iaload, 1) := by decide +kernel
theorem d_law_184 : decode b_law 184 = .ok (.aload_n 0, 1) := by decide +kernel
theorem d_law_185 : decode b_law 185 = .ok (.iload_n 3, 1) := by decide +kernel
theorem d_law_186 : decode b_law 186 = .ok (.iconst 3, 1) := by decide +kernel
theorem d_law_187 : decode b_law 187 = .ok (.iadd, 1) := by decide +kernel
theorem d_law_188 : decode b_law 188 = .ok (.iaload, 1) := by decide +kernel
theorem d_law_189 : decode b_law 189 = .ok (.aload_n 0, 1) := by decide +kernel
theorem d_law_190 : decode b_law 190 = .ok (.iload_n 3, 1) := by decide +kernel
theorem d_law_191 : decode b_law 191 = .ok (.iconst 4, 1) := by decide +kernel
theorem d_law_192 : decode b_law 192 = .ok (.iadd, 1) := by decide +kernel
theorem d_law_193 : decode b_law 193 = .ok (.iaload, 1) := by decide +kernel
theorem d_law_194 : decode b_law 194 = .ok (.aload_n 0, 1) := by decide +kernel
theorem d_law_195 : decode b_law 195 = .ok (.iload_n 3, 1) := by decide +kernel
theorem d_law_196 : decode b_law 196 = .ok (.iconst 5, 1) := by decide +kernel
theorem d_law_197 : decode b_law 197 = .ok (.iadd, 1) := by decide +kernel
theorem d_law_198 : decode b_law 198 = .ok (.iaload, 1) := by decide +kernel
theorem d_law_199 : decode b_law 199 = .ok (.invokevirtual 17, 3) := by decide +kernel
theorem d_law_202 : decode b_law 202 = .ok (.if_icmp .eq 501, 3) := by decide +kernel
theorem d_law_207 : decode b_law 207 = .ok (.aload_n 1, 1) := by decide +kernel
theorem d_law_208 : decode b_law 208 = .ok (.aload_n 0, 1) := by decide +kernel
theorem d_law_209 : decode b_law 209 = .ok (.iload_n 3, 1) := by decide +kernel
theorem d_law_210 : decode b_law 210 = .ok (.iconst 1, 1) := by decide +kernel
theorem d_law_211 : decode b_law 211 = .ok (.iadd, 1) := by decide +kernel
theorem d_law_212 : decode b_law 212 = .ok (.iaload, 1) := by decide +kernel
theorem d_law_213 : decode b_law 213 = .ok (.invokevirtual 18, 3) := by decide +kernel
theorem d_law_216 : decode b_law 216 = .ok (.aload_n 2, 1) := by decide +kernel
theorem d_law_217 : decode b_law 217 = .ok (.aload_n 0, 1) := by decide +kernel
theorem d_law_218 : decode b_law 218 = .ok (.iload_n 3, 1) := by decide +kernel
theorem d_law_219 : decode b_law 219 = .ok (.iconst 1, 1) := by decide +kernel
theorem d_law_220 : decode b_law 220 = .ok (.iadd, 1) := by decide +kernel
theorem d_law_221 : decode b_law 221 = .ok (.iaload, 1) := by decide +kernel
theorem d_law_222 : decode b_law 222 = .ok (.invokevirtual 22, 3) := by decide +kernel
theorem d_law_225 : decode b_law 225 = .ok (.if_icmp .eq 478, 3) := by decide +kernel
theorem d_law_230 : decode b_law 230 = .ok (.aload_n 1, 1) := by decide +kernel
theorem d_law_231 : decode b_law 231 = .ok (.invokevirtual 23, 3) := by decide +kernel
theorem d_law_234 : decode b_law 234 = .ok (.aload_n 2, 1) := by decide +kernel
theorem d_law_235 : decode b_law 235 = .ok (.invokevirtual 27, 3) := by decide +kernel
theorem d_law_238 : decode b_law 238 = .ok (.if_icmp .eq 465, 3) := by decide +kernel
