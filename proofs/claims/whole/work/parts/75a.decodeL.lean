theorem d_L_0 : decode code 0 = .ok (.new 7, 3) := by decide +kernel
theorem d_L_3 : decode code 3 = .ok (.dup, 1) := by decide +kernel
theorem d_L_4 : decode code 4 = .ok (.invokespecial 9, 3) := by decide +kernel
theorem d_L_7 : decode code 7 = .ok (.astore_n 1, 1) := by decide +kernel
theorem d_L_8 : decode code 8 = .ok (.new 10, 3) := by decide +kernel
theorem d_L_11 : decode code 11 = .ok (.dup, 1) := by decide +kernel
theorem d_L_12 : decode code 12 = .ok (.invokespecial 12, 3) := by decide +kernel
theorem d_L_15 : decode code 15 = .ok (.astore_n 2, 1) := by decide +kernel
theorem d_L_16 : decode code 16 = .ok (.iconst 0, 1) := by decide +kernel
theorem d_L_17 : decode code 17 = .ok (.istore_n 3, 1) := by decide +kernel
theorem d_L_18 : decode code 18 = .ok (.iload_n 3, 1) := by decide +kernel
theorem d_L_19 : decode code 19 = .ok (.aload_n 0, 1) := by decide +kernel
theorem d_L_20 : decode code 20 = .ok (.arraylength, 1) := by decide +kernel
theorem d_L_21 : decode code 21 = .ok (.iconst 4, 1) := by decide +kernel
theorem d_L_22 : decode code 22 = .ok (.isub, 1) := by decide +kernel
theorem d_L_23 : decode code 23 = .ok (.if_icmp .gt 567, 3) := by decide +kernel
theorem d_L_26 : decode code 26 = .ok (.aload_n 0, 1) := by decide +kernel
theorem d_L_27 : decode code 27 = .ok (.iload_n 3, 1) := by decide +kernel
theorem d_L_28 : decode code 28 = .ok (.iaload, 1) := by decide +kernel
theorem d_L_29 : decode code 29 = .ok (.bipush 31, 2) := by decide +kernel
theorem d_L_31 : decode code 31 = .ok (.iand, 1) := by decide +kernel
theorem d_L_32 : decode code 32 = .ok (.tableswitch 552 0 19 #[96, 139, 162, 195, 238, 281, 304, 337, 360, 383, 422, 435, 448, 461, 474, 487, 500, 513, 526, 539], 96) := by decide +kernel
theorem d_L_128 : decode code 128 = .ok (.aload_n 1, 1) := by decide +kernel
theorem d_L_129 : decode code 129 = .ok (.aload_n 0, 1) := by decide +kernel
theorem d_L_130 : decode code 130 = .ok (.iload_n 3, 1) := by decide +kernel
theorem d_L_131 : decode code 131 = .ok (.iconst 1, 1) := by decide +kernel
theorem d_L_132 : decode code 132 = .ok (.iadd, 1) := by decide +kernel
theorem d_L_133 : decode code 133 = .ok (.iaload, 1) := by decide +kernel
theorem d_L_134 : decode code 134 = .ok (.aload_n 0, 1) := by decide +kernel
theorem d_L_135 : decode code 135 = .ok (.iload_n 3, 1) := by decide +kernel
theorem d_L_136 : decode code 136 = .ok (.iconst 2, 1) := by decide +kernel
theorem d_L_137 : decode code 137 = .ok (.iadd, 1) := by decide +kernel
theorem d_L_138 : decode code 138 = .ok (.iaload, 1) := by decide +kernel
theorem d_L_139 : decode code 139 = .ok (.aload_n 0, 1) := by decide +kernel
theorem d_L_140 : decode code 140 = .ok (.iload_n 3, 1) := by decide +kernel
theorem d_L_141 : decode code 141 = .ok (.iconst 3, 1) := by decide +kernel
theorem d_L_142 : decode code 142 = .ok (.iadd, 1) := by decide +kernel
theorem d_L_143 : decode code 143 = .ok (.iaload, 1) := by decide +kernel
theorem d_L_144 : decode code 144 = .ok (.invokevirtual 13, 3) := by decide +kernel
theorem d_L_147 : decode code 147 = .ok (.aload_n 2, 1) := by decide +kernel
theorem d_L_148 : decode code 148 = .ok (.aload_n 0, 1) := by decide +kernel
theorem d_L_149 : decode code 149 = .ok (.iload_n 3, 1) := by decide +kernel
theorem d_L_150 : decode code 150 = .ok (.iconst 1, 1) := by decide +kernel
theorem d_L_151 : decode code 151 = .ok (.iadd, 1) := by decide +kernel
theorem d_L_152 : decode code 152 = .ok (.iaload, 1) := by decide +kernel
theorem d_L_153 : decode code 153 = .ok (.aload_n 0, 1) := by decide +kernel
theorem d_L_154 : decode code 154 = .ok (.iload_n 3, 1) := by decide +kernel
theorem d_L_155 : decode code 155 = .ok (.iconst 2, 1) := by decide +kernel
theorem d_L_156 : decode code 156 = .ok (.iadd, 1) := by decide +kernel
theorem d_L_157 : decode code 157 = .ok (.iaload, 1) := by decide +kernel
theorem d_L_158 : decode code 158 = .ok (.aload_n 0, 1) := by decide +kernel
theorem d_L_159 : decode code 159 = .ok (.iload_n 3, 1) := by decide +kernel
theorem d_L_160 : decode code 160 = .ok (.iconst 3, 1) := by decide +kernel
theorem d_L_161 : decode code 161 = .ok (.iadd, 1) := by decide +kernel
theorem d_L_162 : decode code 162 = .ok (.iaload, 1) := by decide +kernel
theorem d_L_163 : decode code 163 = .ok (.invokevirtual 17, 3) := by decide +kernel
theorem d_L_166 : decode code 166 = .ok (.if_icmp .eq 418, 3) := by decide +kernel
theorem d_L_169 : decode code 169 = .ok (.iconst 0, 1) := by decide +kernel
theorem d_L_170 : decode code 170 = .ok (.ireturn, 1) := by decide +kernel
theorem d_L_171 : decode code 171 = .ok (.aload_n 1, 1) := by decide +kernel
theorem d_L_172 : decode code 172 = .ok (.aload_n 0, 1) := by decide +kernel
theorem d_L_173 : decode code 173 = .ok (.iload_n 3, 1) := by decide +kernel
theorem d_L_174 : decode code 174 = .ok (.iconst 1, 1) := by decide +kernel
theorem d_L_175 : decode code 175 = .ok (.iadd, 1) := by decide +kernel
theorem d_L_176 : decode code 176 = .ok (.iaload, 1) := by decide +kernel
theorem d_L_177 : decode code 177 = .ok (.invokevirtual 18, 3) := by decide +kernel
theorem d_L_180 : decode code 180 = .ok (.aload_n 2, 1) := by decide +kernel
theorem d_L_181 : decode code 181 = .ok (.aload_n 0, 1) := by decide +kernel
theorem d_L_182 : decode code 182 = .ok (.iload_n 3, 1) := by decide +kernel
theorem d_L_183 : decode code 183 = .ok (.iconst 1, 1) := by decide +kernel
theorem d_L_184 : decode code 184 = .ok (.iadd, 1) := by decide +kernel
theorem d_L_185 : decode code 185 = .ok (.iaload, 1) := by decide +kernel
theorem d_L_186 : decode code 186 = .ok (.invokevirtual 22, 3) := by decide +kernel
theorem d_L_189 : decode code 189 = .ok (.if_icmp .eq 395, 3) := by decide +kernel
theorem d_L_192 : decode code 192 = .ok (.iconst 0, 1) := by decide +kernel
theorem d_L_193 : decode code 193 = .ok (.ireturn, 1) := by decide +kernel
theorem d_L_194 : decode code 194 = .ok (.aload_n 1, 1) := by decide +kernel
theorem d_L_195 : decode code 195 = .ok (.aload_n 0, 1) := by decide +kernel
theorem d_L_196 : decode code 196 = .ok (.iload_n 3, 1) := by decide +kernel
theorem d_L_197 : decode code 197 = .ok (.iconst 1, 1) := by decide +kernel
theorem d_L_198 : decode code 198 = .ok (.iadd, 1) := by decide +kernel
theorem d_L_199 : decode code 199 = .ok (.iaload, 1) := by decide +kernel
theorem d_L_200 : decode code 200 = .ok (.aload_n 0, 1) := by decide +kernel
theorem d_L_201 : decode code 201 = .ok (.iload_n 3, 1) := by decide +kernel
theorem d_L_202 : decode code 202 = .ok (.iconst 2, 1) := by decide +kernel
theorem d_L_203 : decode code 203 = .ok (.iadd, 1) := by decide +kernel
theorem d_L_204 : decode code 204 = .ok (.iaload, 1) := by decide +kernel
theorem d_L_205 : decode code 205 = .ok (.invokevirtual 23, 3) := by decide +kernel
theorem d_L_208 : decode code 208 = .ok (.aload_n 2, 1) := by decide +kernel
theorem d_L_209 : decode code 209 = .ok (.aload_n 0, 1) := by decide +kernel
theorem d_L_210 : decode code 210 = .ok (.iload_n 3, 1) := by decide +kernel
theorem d_L_211 : decode code 211 = .ok (.iconst 1, 1) := by decide +kernel
theorem d_L_212 : decode code 212 = .ok (.iadd, 1) := by decide +kernel
theorem d_L_213 : decode code 213 = .ok (.iaload, 1) := by decide +kernel
theorem d_L_214 : decode code 214 = .ok (.aload_n 0, 1) := by decide +kernel
theorem d_L_215 : decode code 215 = .ok (.iload_n 3, 1) := by decide +kernel
theorem d_L_216 : decode code 216 = .ok (.iconst 2, 1) := by decide +kernel
theorem d_L_217 : decode code 217 = .ok (.iadd, 1) := by decide +kernel
theorem d_L_218 : decode code 218 = .ok (.iaload, 1) := by decide +kernel
theorem d_L_219 : decode code 219 = .ok (.invokevirtual 27, 3) := by decide +kernel
theorem d_L_222 : decode code 222 = .ok (.if_icmp .eq 362, 3) := by decide +kernel
theorem d_L_225 : decode code 225 = .ok (.iconst 0, 1) := by decide +kernel
theorem d_L_226 : decode code 226 = .ok (.ireturn, 1) := by decide +kernel
theorem d_L_227 : decode code 227 = .ok (.aload_n 1, 1) := by decide +kernel
theorem d_L_228 : decode code 228 = .ok (.aload_n 0, 1) := by decide +kernel
theorem d_L_229 : decode code 229 = .ok (.iload_n 3, 1) := by decide +kernel
theorem d_L_230 : decode code 230 = .ok (.iconst 1, 1) := by decide +kernel
theorem d_L_231 : decode code 231 = .ok (.iadd, 1) := by decide +kernel
theorem d_L_232 : decode code 232 = .ok (.iaload, 1) := by decide +kernel
theorem d_L_233 : decode code 233 = .ok (.aload_n 0, 1) := by decide +kernel
theorem d_L_234 : decode code 234 = .ok (.iload_n 3, 1) := by decide +kernel
theorem d_L_235 : decode code 235 = .ok (.iconst 2, 1) := by decide +kernel
theorem d_L_236 : decode code 236 = .ok (.iadd, 1) := by decide +kernel
theorem d_L_237 : decode code 237 = .ok (.iaload, 1) := by decide +kernel
theorem d_L_238 : decode code 238 = .ok (.aload_n 0, 1) := by decide +kernel
theorem d_L_239 : decode code 239 = .ok (.iload_n 3, 1) := by decide +kernel
theorem d_L_240 : decode code 240 = .ok (.iconst 3, 1) := by decide +kernel
theorem d_L_241 : decode code 241 = .ok (.iadd, 1) := by decide +kernel
theorem d_L_242 : decode code 242 = .ok (.iaload, 1) := by decide +kernel
theorem d_L_243 : decode code 243 = .ok (.invokevirtual 28, 3) := by decide +kernel
theorem d_L_246 : decode code 246 = .ok (.aload_n 2, 1) := by decide +kernel
theorem d_L_247 : decode code 247 = .ok (.aload_n 0, 1) := by decide +kernel
theorem d_L_248 : decode code 248 = .ok (.iload_n 3, 1) := by decide +kernel
theorem d_L_249 : decode code 249 = .ok (.iconst 1, 1) := by decide +kernel
theorem d_L_250 : decode code 250 = .ok (.iadd, 1) := by decide +kernel
theorem d_L_251 : decode code 251 = .ok (.iaload, 1) := by decide +kernel
theorem d_L_252 : decode code 252 = .ok (.aload_n 0, 1) := by decide +kernel
theorem d_L_253 : decode code 253 = .ok (.iload_n 3, 1) := by decide +kernel
theorem d_L_254 : decode code 254 = .ok (.iconst 2, 1) := by decide +kernel
theorem d_L_255 : decode code 255 = .ok (.iadd, 1) := by decide +kernel
theorem d_L_256 : decode code 256 = .ok (.iaload, 1) := by decide +kernel
theorem d_L_257 : decode code 257 = .ok (.aload_n 0, 1) := by decide +kernel
theorem d_L_258 : decode code 258 = .ok (.iload_n 3, 1) := by decide +kernel
theorem d_L_259 : decode code 259 = .ok (.iconst 3, 1) := by decide +kernel
theorem d_L_260 : decode code 260 = .ok (.iadd, 1) := by decide +kernel
theorem d_L_261 : decode code 261 = .ok (.iaload, 1) := by decide +kernel
theorem d_L_262 : decode code 262 = .ok (.invokevirtual 31, 3) := by decide +kernel
theorem d_L_265 : decode code 265 = .ok (.if_icmp .eq 319, 3) := by decide +kernel
theorem d_L_268 : decode code 268 = .ok (.iconst 0, 1) := by decide +kernel
theorem d_L_269 : decode code 269 = .ok (.ireturn, 1) := by decide +kernel
theorem d_L_270 : decode code 270 = .ok (.aload_n 1, 1) := by decide +kernel
theorem d_L_271 : decode code 271 = .ok (.aload_n 0, 1) := by decide +kernel
theorem d_L_272 : decode code 272 = .ok (.iload_n 3, 1) := by decide +kernel
theorem d_L_273 : decode code 273 = .ok (.iconst 1, 1) := by decide +kernel
theorem d_L_274 : decode code 274 = .ok (.iadd, 1) := by decide +kernel
theorem d_L_275 : decode code 275 = .ok (.iaload, 1) := by decide +kernel
theorem d_L_276 : decode code 276 = .ok (.aload_n 0, 1) := by decide +kernel
theorem d_L_277 : decode code 277 = .ok (.iload_n 3, 1) := by decide +kernel
theorem d_L_278 : decode code 278 = .ok (.iconst 2, 1) := by decide +kernel
theorem d_L_279 : decode code 279 = .ok (.iadd, 1) := by decide +kernel
theorem d_L_280 : decode code 280 = .ok (.iaload, 1) := by decide +kernel
theorem d_L_281 : decode code 281 = .ok (.aload_n 0, 1) := by decide +kernel
theorem d_L_282 : decode code 282 = .ok (.iload_n 3, 1) := by decide +kernel
theorem d_L_283 : decode code 283 = .ok (.iconst 3, 1) := by decide +kernel
theorem d_L_284 : decode code 284 = .ok (.iadd, 1) := by decide +kernel
theorem d_L_285 : decode code 285 = .ok (.iaload, 1) := by decide +kernel
theorem d_L_286 : decode code 286 = .ok (.invokevirtual 32, 3) := by decide +kernel
theorem d_L_289 : decode code 289 = .ok (.aload_n 2, 1) := by decide +kernel
theorem d_L_290 : decode code 290 = .ok (.aload_n 0, 1) := by decide +kernel
theorem d_L_291 : decode code 291 = .ok (.iload_n 3, 1) := by decide +kernel
theorem d_L_292 : decode code 292 = .ok (.iconst 1, 1) := by decide +kernel
theorem d_L_293 : decode code 293 = .ok (.iadd, 1) := by decide +kernel
theorem d_L_294 : decode code 294 = .ok (.iaload, 1) := by decide +kernel
theorem d_L_295 : decode code 295 = .ok (.aload_n 0, 1) := by decide +kernel
theorem d_L_296 : decode code 296 = .ok (.iload_n 3, 1) := by decide +kernel
theorem d_L_297 : decode code 297 = .ok (.iconst 2, 1) := by decide +kernel
theorem d_L_298 : decode code 298 = .ok (.iadd, 1) := by decide +kernel
theorem d_L_299 : decode code 299 = .ok (.iaload, 1) := by decide +kernel
theorem d_L_300 : decode code 300 = .ok (.aload_n 0, 1) := by decide +kernel
theorem d_L_301 : decode code 301 = .ok (.iload_n 3, 1) := by decide +kernel
theorem d_L_302 : decode code 302 = .ok (.iconst 3, 1) := by decide +kernel
theorem d_L_303 : decode code 303 = .ok (.iadd, 1) := by decide +kernel
theorem d_L_304 : decode code 304 = .ok (.iaload, 1) := by decide +kernel
theorem d_L_305 : decode code 305 = .ok (.invokevirtual 35, 3) := by decide +kernel
theorem d_L_308 : decode code 308 = .ok (.if_icmp .eq 276, 3) := by decide +kernel
theorem d_L_311 : decode code 311 = .ok (.iconst 0, 1) := by decide +kernel
theorem d_L_312 : decode code 312 = .ok (.ireturn, 1) := by decide +kernel
