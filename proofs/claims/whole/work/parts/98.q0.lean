/-! the law, decoded -/
theorem dL_law_0 : decode code 0 = .ok (.new 8, 3) := by decide +kernel
theorem dL_law_3 : decode code 3 = .ok (.dup, 1) := by decide +kernel
theorem dL_law_4 : decode code 4 = .ok (.invokespecial 38, 3) := by decide +kernel
theorem dL_law_7 : decode code 7 = .ok (.astore_n 1, 1) := by decide +kernel
theorem dL_law_8 : decode code 8 = .ok (.new 39, 3) := by decide +kernel
theorem dL_law_11 : decode code 11 = .ok (.dup, 1) := by decide +kernel
theorem dL_law_12 : decode code 12 = .ok (.invokespecial 41, 3) := by decide +kernel
theorem dL_law_15 : decode code 15 = .ok (.astore_n 2, 1) := by decide +kernel
theorem dL_law_16 : decode code 16 = .ok (.iconst 1, 1) := by decide +kernel
theorem dL_law_17 : decode code 17 = .ok (.newarray .long, 2) := by decide +kernel
theorem dL_law_19 : decode code 19 = .ok (.astore_n 3, 1) := by decide +kernel
theorem dL_law_20 : decode code 20 = .ok (.iconst 0, 1) := by decide +kernel
theorem dL_law_21 : decode code 21 = .ok (.istore 4, 2) := by decide +kernel
theorem dL_law_23 : decode code 23 = .ok (.iload 4, 2) := by decide +kernel
theorem dL_law_25 : decode code 25 = .ok (.aload_n 0, 1) := by decide +kernel
theorem dL_law_26 : decode code 26 = .ok (.arraylength, 1) := by decide +kernel
theorem dL_law_27 : decode code 27 = .ok (.bipush 6, 2) := by decide +kernel
theorem dL_law_29 : decode code 29 = .ok (.isub, 1) := by decide +kernel
theorem dL_law_30 : decode code 30 = .ok (.if_icmp .gt 1398, 3) := by decide +kernel
theorem dL_law_33 : decode code 33 = .ok (.aload_n 0, 1) := by decide +kernel
theorem dL_law_34 : decode code 34 = .ok (.iload 4, 2) := by decide +kernel
theorem dL_law_36 : decode code 36 = .ok (.iaload, 1) := by decide +kernel
theorem dL_law_37 : decode code 37 = .ok (.bipush 31, 2) := by decide +kernel
theorem dL_law_39 : decode code 39 = .ok (.iand, 1) := by decide +kernel
theorem dL_law_40 : decode code 40 = .ok (.tableswitch 1382 0 25 #[120, 252, 289, 326, 363, 431, 499, 536, 573, 610, 647, 714, 794, 937, 962, 1011, 1048, 1085, 1122, 1171, 1196, 1221, 1270, 1319, 1344, 1369], 120) := by decide +kernel
theorem dL_law_160 : decode code 160 = .ok (.aload_n 1, 1) := by decide +kernel
theorem dL_law_161 : decode code 161 = .ok (.aload_n 0, 1) := by decide +kernel
theorem dL_law_162 : decode code 162 = .ok (.iload 4, 2) := by decide +kernel
theorem dL_law_164 : decode code 164 = .ok (.iconst 1, 1) := by decide +kernel
theorem dL_law_165 : decode code 165 = .ok (.iadd, 1) := by decide +kernel
theorem dL_law_166 : decode code 166 = .ok (.iaload, 1) := by decide +kernel
theorem dL_law_167 : decode code 167 = .ok (.i2l, 1) := by decide +kernel
theorem dL_law_168 : decode code 168 = .ok (.bipush 32, 2) := by decide +kernel
theorem dL_law_170 : decode code 170 = .ok (.lshl, 1) := by decide +kernel
theorem dL_law_171 : decode code 171 = .ok (.aload_n 0, 1) := by decide +kernel
theorem dL_law_172 : decode code 172 = .ok (.iload 4, 2) := by decide +kernel
theorem dL_law_174 : decode code 174 = .ok (.iconst 2, 1) := by decide +kernel
theorem dL_law_175 : decode code 175 = .ok (.iadd, 1) := by decide +kernel
theorem dL_law_176 : decode code 176 = .ok (.iaload, 1) := by decide +kernel
theorem dL_law_177 : decode code 177 = .ok (.i2l, 1) := by decide +kernel
theorem dL_law_178 : decode code 178 = .ok (.ldc2_w 42, 3) := by decide +kernel
theorem dL_law_181 : decode code 181 = .ok (.land, 1) := by decide +kernel
theorem dL_law_182 : decode code 182 = .ok (.lor, 1) := by decide +kernel
theorem dL_law_183 : decode code 183 = .ok (.aload_n 0, 1) := by decide +kernel
theorem dL_law_184 : decode code 184 = .ok (.iload 4, 2) := by decide +kernel
theorem dL_law_186 : decode code 186 = .ok (.iconst 3, 1) := by decide +kernel
theorem dL_law_187 : decode code 187 = .ok (.iadd, 1) := by decide +kernel
theorem dL_law_188 : decode code 188 = .ok (.iaload, 1) := by decide +kernel
theorem dL_law_189 : decode code 189 = .ok (.i2l, 1) := by decide +kernel
theorem dL_law_190 : decode code 190 = .ok (.bipush 32, 2) := by decide +kernel
theorem dL_law_192 : decode code 192 = .ok (.lshl, 1) := by decide +kernel
theorem dL_law_193 : decode code 193 = .ok (.aload_n 0, 1) := by decide +kernel
theorem dL_law_194 : decode code 194 = .ok (.iload 4, 2) := by decide +kernel
theorem dL_law_196 : decode code 196 = .ok (.iconst 4, 1) := by decide +kernel
theorem dL_law_197 : decode code 197 = .ok (.iadd, 1) := by decide +kernel
theorem dL_law_198 : decode code 198 = .ok (.iaload, 1) := by decide +kernel
theorem dL_law_199 : decode code 199 = .ok (.i2l, 1) := by decide +kernel
theorem dL_law_200 : decode code 200 = .ok (.ldc2_w 42, 3) := by decide +kernel
theorem dL_law_203 : decode code 203 = .ok (.land, 1) := by decide +kernel
theorem dL_law_204 : decode code 204 = .ok (.lor, 1) := by decide +kernel
theorem dL_law_205 : decode code 205 = .ok (.aload_n 3, 1) := by decide +kernel
theorem dL_law_206 : decode code 206 = .ok (.invokestatic 44, 3) := by decide +kernel
theorem dL_law_209 : decode code 209 = .ok (.istore 5, 2) := by decide +kernel
theorem dL_law_211 : decode code 211 = .ok (.aload_n 2, 1) := by decide +kernel
theorem dL_law_212 : decode code 212 = .ok (.aload_n 0, 1) := by decide +kernel
theorem dL_law_213 : decode code 213 = .ok (.iload 4, 2) := by decide +kernel
theorem dL_law_215 : decode code 215 = .ok (.iconst 1, 1) := by decide +kernel
theorem dL_law_216 : decode code 216 = .ok (.iadd, 1) := by decide +kernel
theorem dL_law_217 : decode code 217 = .ok (.iaload, 1) := by decide +kernel
theorem dL_law_218 : decode code 218 = .ok (.i2l, 1) := by decide +kernel
theorem dL_law_219 : decode code 219 = .ok (.bipush 32, 2) := by decide +kernel
theorem dL_law_221 : decode code 221 = .ok (.lshl, 1) := by decide +kernel
theorem dL_law_222 : decode code 222 = .ok (.aload_n 0, 1) := by decide +kernel
theorem dL_law_223 : decode code 223 = .ok (.iload 4, 2) := by decide +kernel
theorem dL_law_225 : decode code 225 = .ok (.iconst 2, 1) := by decide +kernel
theorem dL_law_226 : decode code 226 = .ok (.iadd, 1) := by decide +kernel
theorem dL_law_227 : decode code 227 = .ok (.iaload, 1) := by decide +kernel
theorem dL_law_228 : decode code 228 = .ok (.i2l, 1) := by decide +kernel
theorem dL_law_229 : decode code 229 = .ok (.ldc2_w 42, 3) := by decide +kernel
theorem dL_law_232 : decode code 232 = .ok (.land, 1) := by decide +kernel
theorem dL_law_233 : decode code 233 = .ok (.lor, 1) := by decide +kernel
theorem dL_law_234 : decode code 234 = .ok (.aload_n 0, 1) := by decide +kernel
theorem dL_law_235 : decode code 235 = .ok (.iload 4, 2) := by decide +kernel
theorem dL_law_237 : decode code 237 = .ok (.iconst 3, 1) := by decide +kernel
theorem dL_law_238 : decode code 238 = .ok (.iadd, 1) := by decide +kernel
theorem dL_law_239 : decode code 239 = .ok (.iaload, 1) := by decide +kernel
theorem dL_law_240 : decode code 240 = .ok (.i2l, 1) := by decide +kernel
theorem dL_law_241 : decode code 241 = .ok (.bipush 32, 2) := by decide +kernel
theorem dL_law_243 : decode code 243 = .ok (.lshl, 1) := by decide +kernel
theorem dL_law_244 : decode code 244 = .ok (.aload_n 0, 1) := by decide +kernel
theorem dL_law_245 : decode code 245 = .ok (.iload 4, 2) := by decide +kernel
theorem dL_law_247 : decode code 247 = .ok (.iconst 4, 1) := by decide +kernel
theorem dL_law_248 : decode code 248 = .ok (.iadd, 1) := by decide +kernel
theorem dL_law_249 : decode code 249 = .ok (.iaload, 1) := by decide +kernel
theorem dL_law_250 : decode code 250 = .ok (.i2l, 1) := by decide +kernel
theorem dL_law_251 : decode code 251 = .ok (.ldc2_w 42, 3) := by decide +kernel
theorem dL_law_254 : decode code 254 = .ok (.land, 1) := by decide +kernel
theorem dL_law_255 : decode code 255 = .ok (.lor, 1) := by decide +kernel
theorem dL_law_256 : decode code 256 = .ok (.invokevirtual 49, 3) := by decide +kernel
theorem dL_law_259 : decode code 259 = .ok (.istore 6, 2) := by decide +kernel
theorem dL_law_261 : decode code 261 = .ok (.aload_n 2, 1) := by decide +kernel
theorem dL_law_262 : decode code 262 = .ok (.invokevirtual 50, 3) := by decide +kernel
theorem dL_law_265 : decode code 265 = .ok (.iload 5, 2) := by decide +kernel
theorem dL_law_267 : decode code 267 = .ok (.if_icmp .eq 5, 3) := by decide +kernel
theorem dL_law_270 : decode code 270 = .ok (.iconst 0, 1) := by decide +kernel
theorem dL_law_271 : decode code 271 = .ok (.ireturn, 1) := by decide +kernel
theorem dL_law_272 : decode code 272 = .ok (.iload 5, 2) := by decide +kernel
theorem dL_law_274 : decode code 274 = .ok (.ifCond .ne 15, 3) := by decide +kernel
theorem dL_law_277 : decode code 277 = .ok (.aload_n 3, 1) := by decide +kernel
theorem dL_law_278 : decode code 278 = .ok (.iconst 0, 1) := by decide +kernel
