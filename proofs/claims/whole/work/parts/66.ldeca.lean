theorem dL_0 : decode code 0 = .ok (.new 7, 3) := by decide +kernel
theorem dL_3 : decode code 3 = .ok (.dup, 1) := by decide +kernel
theorem dL_4 : decode code 4 = .ok (.invokespecial 9, 3) := by decide +kernel
theorem dL_7 : decode code 7 = .ok (.astore_n 1, 1) := by decide +kernel
theorem dL_8 : decode code 8 = .ok (.new 10, 3) := by decide +kernel
theorem dL_11 : decode code 11 = .ok (.dup, 1) := by decide +kernel
theorem dL_12 : decode code 12 = .ok (.invokespecial 12, 3) := by decide +kernel
theorem dL_15 : decode code 15 = .ok (.astore_n 2, 1) := by decide +kernel
theorem dL_16 : decode code 16 = .ok (.iconst 0, 1) := by decide +kernel
theorem dL_17 : decode code 17 = .ok (.istore_n 3, 1) := by decide +kernel
theorem dL_18 : decode code 18 = .ok (.iload_n 3, 1) := by decide +kernel
theorem dL_19 : decode code 19 = .ok (.aload_n 0, 1) := by decide +kernel
theorem dL_20 : decode code 20 = .ok (.arraylength, 1) := by decide +kernel
theorem dL_21 : decode code 21 = .ok (.iconst 5, 1) := by decide +kernel
theorem dL_22 : decode code 22 = .ok (.isub, 1) := by decide +kernel
theorem dL_23 : decode code 23 = .ok (.if_icmp .gt 756, 3) := by decide +kernel
theorem dL_26 : decode code 26 = .ok (.aload_n 0, 1) := by decide +kernel
theorem dL_27 : decode code 27 = .ok (.iload_n 3, 1) := by decide +kernel
theorem dL_28 : decode code 28 = .ok (.iaload, 1) := by decide +kernel
theorem dL_29 : decode code 29 = .ok (.bipush 31, 2) := by decide +kernel
theorem dL_31 : decode code 31 = .ok (.iand, 1) := by decide +kernel
theorem dL_32 : decode code 32 = .ok (.tableswitch 741 0 18 #[92, 145, 194, 247, 270, 303, 372, 405, 438, 451, 474, 507, 540, 573, 626, 639, 672, 685, 718], 92) := by decide +kernel
theorem dL_124 : decode code 124 = .ok (.aload_n 1, 1) := by decide +kernel
theorem dL_125 : decode code 125 = .ok (.aload_n 0, 1) := by decide +kernel
theorem dL_126 : decode code 126 = .ok (.iload_n 3, 1) := by decide +kernel
theorem dL_127 : decode code 127 = .ok (.iconst 1, 1) := by decide +kernel
theorem dL_128 : decode code 128 = .ok (.iadd, 1) := by decide +kernel
theorem dL_129 : decode code 129 = .ok (.iaload, 1) := by decide +kernel
theorem dL_130 : decode code 130 = .ok (.aload_n 0, 1) := by decide +kernel
theorem dL_131 : decode code 131 = .ok (.iload_n 3, 1) := by decide +kernel
theorem dL_132 : decode code 132 = .ok (.iconst 2, 1) := by decide +kernel
theorem dL_133 : decode code 133 = .ok (.iadd, 1) := by decide +kernel
theorem dL_134 : decode code 134 = .ok (.iaload, 1) := by decide +kernel
theorem dL_135 : decode code 135 = .ok (.aload_n 0, 1) := by decide +kernel
theorem dL_136 : decode code 136 = .ok (.iload_n 3, 1) := by decide +kernel
theorem dL_137 : decode code 137 = .ok (.iconst 3, 1) := by decide +kernel
theorem dL_138 : decode code 138 = .ok (.iadd, 1) := by decide +kernel
theorem dL_139 : decode code 139 = .ok (.iaload, 1) := by decide +kernel
theorem dL_140 : decode code 140 = .ok (.aload_n 0, 1) := by decide +kernel
theorem dL_141 : decode code 141 = .ok (.iload_n 3, 1) := by decide +kernel
theorem dL_142 : decode code 142 = .ok (.iconst 4, 1) := by decide +kernel
theorem dL_143 : decode code 143 = .ok (.iadd, 1) := by decide +kernel
theorem dL_144 : decode code 144 = .ok (.iaload, 1) := by decide +kernel
theorem dL_145 : decode code 145 = .ok (.invokevirtual 13, 3) := by decide +kernel
theorem dL_148 : decode code 148 = .ok (.aload_n 2, 1) := by decide +kernel
theorem dL_149 : decode code 149 = .ok (.aload_n 0, 1) := by decide +kernel
theorem dL_150 : decode code 150 = .ok (.iload_n 3, 1) := by decide +kernel
theorem dL_151 : decode code 151 = .ok (.iconst 1, 1) := by decide +kernel
theorem dL_152 : decode code 152 = .ok (.iadd, 1) := by decide +kernel
theorem dL_153 : decode code 153 = .ok (.iaload, 1) := by decide +kernel
theorem dL_154 : decode code 154 = .ok (.aload_n 0, 1) := by decide +kernel
theorem dL_155 : decode code 155 = .ok (.iload_n 3, 1) := by decide +kernel
theorem dL_156 : decode code 156 = .ok (.iconst 2, 1) := by decide +kernel
theorem dL_157 : decode code 157 = .ok (.iadd, 1) := by decide +kernel
theorem dL_158 : decode code 158 = .ok (.iaload, 1) := by decide +kernel
theorem dL_159 : decode code 159 = .ok (.aload_n 0, 1) := by decide +kernel
theorem dL_160 : decode code 160 = .ok (.iload_n 3, 1) := by decide +kernel
theorem dL_161 : decode code 161 = .ok (.iconst 3, 1) := by decide +kernel
theorem dL_162 : decode code 162 = .ok (.iadd, 1) := by decide +kernel
theorem dL_163 : decode code 163 = .ok (.iaload, 1) := by decide +kernel
theorem dL_164 : decode code 164 = .ok (.aload_n 0, 1) := by decide +kernel
theorem dL_165 : decode code 165 = .ok (.iload_n 3, 1) := by decide +kernel
theorem dL_166 : decode code 166 = .ok (.iconst 4, 1) := by decide +kernel
theorem dL_167 : decode code 167 = .ok (.iadd, 1) := by decide +kernel
theorem dL_168 : decode code 168 = .ok (.iaload, 1) := by decide +kernel
theorem dL_169 : decode code 169 = .ok (.invokevirtual 17, 3) := by decide +kernel
theorem dL_172 : decode code 172 = .ok (.if_icmp .eq 601, 3) := by decide +kernel
theorem dL_175 : decode code 175 = .ok (.iconst 0, 1) := by decide +kernel
theorem dL_176 : decode code 176 = .ok (.ireturn, 1) := by decide +kernel
theorem dL_177 : decode code 177 = .ok (.aload_n 1, 1) := by decide +kernel
theorem dL_178 : decode code 178 = .ok (.aload_n 0, 1) := by decide +kernel
theorem dL_179 : decode code 179 = .ok (.iload_n 3, 1) := by decide +kernel
theorem dL_180 : decode code 180 = .ok (.iconst 1, 1) := by decide +kernel
theorem dL_181 : decode code 181 = .ok (.iadd, 1) := by decide +kernel
theorem dL_182 : decode code 182 = .ok (.iaload, 1) := by decide +kernel
theorem dL_183 : decode code 183 = .ok (.aload_n 0, 1) := by decide +kernel
theorem dL_184 : decode code 184 = .ok (.iload_n 3, 1) := by decide +kernel
theorem dL_185 : decode code 185 = .ok (.iconst 2, 1) := by decide +kernel
theorem dL_186 : decode code 186 = .ok (.iadd, 1) := by decide +kernel
theorem dL_187 : decode code 187 = .ok (.iaload, 1) := by decide +kernel
theorem dL_188 : decode code 188 = .ok (.ifCond .eq 7, 3) := by decide +kernel
theorem dL_191 : decode code 191 = .ok (.iconst 1, 1) := by decide +kernel
theorem dL_192 : decode code 192 = .ok (.goto 4, 3) := by decide +kernel
theorem dL_195 : decode code 195 = .ok (.iconst 0, 1) := by decide +kernel
theorem dL_196 : decode code 196 = .ok (.invokevirtual 18, 3) := by decide +kernel
theorem dL_199 : decode code 199 = .ok (.aload_n 2, 1) := by decide +kernel
theorem dL_200 : decode code 200 = .ok (.aload_n 0, 1) := by decide +kernel
theorem dL_201 : decode code 201 = .ok (.iload_n 3, 1) := by decide +kernel
theorem dL_202 : decode code 202 = .ok (.iconst 1, 1) := by decide +kernel
theorem dL_203 : decode code 203 = .ok (.iadd, 1) := by decide +kernel
theorem dL_204 : decode code 204 = .ok (.iaload, 1) := by decide +kernel
theorem dL_205 : decode code 205 = .ok (.aload_n 0, 1) := by decide +kernel
theorem dL_206 : decode code 206 = .ok (.iload_n 3, 1) := by decide +kernel
theorem dL_207 : decode code 207 = .ok (.iconst 2, 1) := by decide +kernel
theorem dL_208 : decode code 208 = .ok (.iadd, 1) := by decide +kernel
theorem dL_209 : decode code 209 = .ok (.iaload, 1) := by decide +kernel
theorem dL_210 : decode code 210 = .ok (.ifCond .eq 7, 3) := by decide +kernel
theorem dL_213 : decode code 213 = .ok (.iconst 1, 1) := by decide +kernel
theorem dL_214 : decode code 214 = .ok (.goto 4, 3) := by decide +kernel
theorem dL_217 : decode code 217 = .ok (.iconst 0, 1) := by decide +kernel
theorem dL_218 : decode code 218 = .ok (.invokevirtual 22, 3) := by decide +kernel
theorem dL_221 : decode code 221 = .ok (.if_icmp .eq 552, 3) := by decide +kernel
theorem dL_224 : decode code 224 = .ok (.iconst 0, 1) := by decide +kernel
theorem dL_225 : decode code 225 = .ok (.ireturn, 1) := by decide +kernel
theorem dL_226 : decode code 226 = .ok (.aload_n 1, 1) := by decide +kernel
theorem dL_227 : decode code 227 = .ok (.aload_n 0, 1) := by decide +kernel
theorem dL_228 : decode code 228 = .ok (.iload_n 3, 1) := by decide +kernel
theorem dL_229 : decode code 229 = .ok (.iconst 1, 1) := by decide +kernel
theorem dL_230 : decode code 230 = .ok (.iadd, 1) := by decide +kernel
theorem dL_231 : decode code 231 = .ok (.iaload, 1) := by decide +kernel
theorem dL_232 : decode code 232 = .ok (.aload_n 0, 1) := by decide +kernel
theorem dL_233 : decode code 233 = .ok (.iload_n 3, 1) := by decide +kernel
theorem dL_234 : decode code 234 = .ok (.iconst 2, 1) := by decide +kernel
theorem dL_235 : decode code 235 = .ok (.iadd, 1) := by decide +kernel
theorem dL_236 : decode code 236 = .ok (.iaload, 1) := by decide +kernel
theorem dL_237 : decode code 237 = .ok (.aload_n 0, 1) := by decide +kernel
theorem dL_238 : decode code 238 = .ok (.iload_n 3, 1) := by decide +kernel
theorem dL_239 : decode code 239 = .ok (.iconst 3, 1) := by decide +kernel
theorem dL_240 : decode code 240 = .ok (.iadd, 1) := by decide +kernel
theorem dL_241 : decode code 241 = .ok (.iaload, 1) := by decide +kernel
theorem dL_242 : decode code 242 = .ok (.aload_n 0, 1) := by decide +kernel
theorem dL_243 : decode code 243 = .ok (.iload_n 3, 1) := by decide +kernel
theorem dL_244 : decode code 244 = .ok (.iconst 4, 1) := by decide +kernel
theorem dL_245 : decode code 245 = .ok (.iadd, 1) := by decide +kernel
theorem dL_246 : decode code 246 = .ok (.iaload, 1) := by decide +kernel
theorem dL_247 : decode code 247 = .ok (.invokevirtual 23, 3) := by decide +kernel
theorem dL_250 : decode code 250 = .ok (.aload_n 2, 1) := by decide +kernel
theorem dL_251 : decode code 251 = .ok (.aload_n 0, 1) := by decide +kernel
theorem dL_252 : decode code 252 = .ok (.iload_n 3, 1) := by decide +kernel
theorem dL_253 : decode code 253 = .ok (.iconst 1, 1) := by decide +kernel
theorem dL_254 : decode code 254 = .ok (.iadd, 1) := by decide +kernel
theorem dL_255 : decode code 255 = .ok (.iaload, 1) := by decide +kernel
theorem dL_256 : decode code 256 = .ok (.aload_n 0, 1) := by decide +kernel
theorem dL_257 : decode code 257 = .ok (.iload_n 3, 1) := by decide +kernel
theorem dL_258 : decode code 258 = .ok (.iconst 2, 1) := by decide +kernel
theorem dL_259 : decode code 259 = .ok (.iadd, 1) := by decide +kernel
theorem dL_260 : decode code 260 = .ok (.iaload, 1) := by decide +kernel
theorem dL_261 : decode code 261 = .ok (.aload_n 0, 1) := by decide +kernel
theorem dL_262 : decode code 262 = .ok (.iload_n 3, 1) := by decide +kernel
theorem dL_263 : decode code 263 = .ok (.iconst 3, 1) := by decide +kernel
