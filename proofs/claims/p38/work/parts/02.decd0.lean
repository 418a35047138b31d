set_option maxRecDepth 100000 in
theorem dzd0_cL_law_0 : DzLies cL_law (.mk ⟨[0xbb, 0x00, 0x07, 0x59, 0xb7, 0x00, 0x09, 0x4c, 0xbb, 0x00, 0x0a, 0x59, 0xb7, 0x00, 0x0c, 0x4d, 0x03, 0x3e, 0x1d, 0x2a, 0xbe, 0x10, 0x06, 0x64, 0xa3, 0x04, 0xe2, 0x2a, 0x1d, 0x2e, 0x10, 0x3f]⟩) 0 := dz_lies (m := 32) (Nat.zero_lt_succ _) rfl
theorem dL_law_0 : decode cL_law 0 = .ok (.new 7, 3) := dz1 (k := 0) (m := 3) dzd0_cL_law_0 di_716 (Nat.zero_lt_succ _) rfl
theorem dL_law_3 : decode cL_law 3 = .ok (.dup, 1) := dz1 (k := 3) (m := 1) dzd0_cL_law_0 di_23 (Nat.zero_lt_succ _) rfl
theorem dL_law_4 : decode cL_law 4 = .ok (.invokespecial 9, 3) := dz1 (k := 4) (m := 3) dzd0_cL_law_0 di_174 (Nat.zero_lt_succ _) rfl
theorem dL_law_7 : decode cL_law 7 = .ok (.astore_n 1, 1) := dz1 (k := 7) (m := 1) dzd0_cL_law_0 di_717 (Nat.zero_lt_succ _) rfl
theorem dL_law_8 : decode cL_law 8 = .ok (.new 10, 3) := dz1 (k := 8) (m := 3) dzd0_cL_law_0 di_718 (Nat.zero_lt_succ _) rfl
theorem dL_law_11 : decode cL_law 11 = .ok (.dup, 1) := dz1 (k := 11) (m := 1) dzd0_cL_law_0 di_23 (Nat.zero_lt_succ _) rfl
theorem dL_law_12 : decode cL_law 12 = .ok (.invokespecial 12, 3) := dz1 (k := 12) (m := 3) dzd0_cL_law_0 di_719 (Nat.zero_lt_succ _) rfl
theorem dL_law_15 : decode cL_law 15 = .ok (.astore_n 2, 1) := dz1 (k := 15) (m := 1) dzd0_cL_law_0 di_492 (Nat.zero_lt_succ _) rfl
theorem dL_law_16 : decode cL_law 16 = .ok (.iconst 0, 1) := dz1 (k := 16) (m := 1) dzd0_cL_law_0 di_8 (Nat.zero_lt_succ _) rfl
theorem dL_law_17 : decode cL_law 17 = .ok (.istore_n 3, 1) := dz1 (k := 17) (m := 1) dzd0_cL_law_0 di_50 (Nat.zero_lt_succ _) rfl
theorem dL_law_18 : decode cL_law 18 = .ok (.iload_n 3, 1) := dz1 (k := 18) (m := 1) dzd0_cL_law_0 di_3 (Nat.zero_lt_succ _) rfl
theorem dL_law_19 : decode cL_law 19 = .ok (.aload_n 0, 1) := dz1 (k := 19) (m := 1) dzd0_cL_law_0 di_0 (Nat.zero_lt_succ _) rfl
theorem dL_law_20 : decode cL_law 20 = .ok (.arraylength, 1) := dz1 (k := 20) (m := 1) dzd0_cL_law_0 di_188 (Nat.zero_lt_succ _) rfl
theorem dL_law_21 : decode cL_law 21 = .ok (.bipush 6, 2) := dz1 (k := 21) (m := 2) dzd0_cL_law_0 di_86 (Nat.zero_lt_succ _) rfl
theorem dL_law_23 : decode cL_law 23 = .ok (.isub, 1) := dz1 (k := 23) (m := 1) dzd0_cL_law_0 di_14 (Nat.zero_lt_succ _) rfl
theorem dL_law_24 : decode cL_law 24 = .ok (.if_icmp .gt 1250, 3) := dz1 (k := 24) (m := 3) dzd0_cL_law_0 di_720 (Nat.zero_lt_succ _) rfl
theorem dL_law_27 : decode cL_law 27 = .ok (.aload_n 0, 1) := dz1 (k := 27) (m := 1) dzd0_cL_law_0 di_0 (Nat.zero_lt_succ _) rfl
theorem dL_law_28 : decode cL_law 28 = .ok (.iload_n 3, 1) := dz1 (k := 28) (m := 1) dzd0_cL_law_0 di_3 (Nat.zero_lt_succ _) rfl
theorem dL_law_29 : decode cL_law 29 = .ok (.iaload, 1) := dz1 (k := 29) (m := 1) dzd0_cL_law_0 di_30 (Nat.zero_lt_succ _) rfl
theorem dL_law_30 : decode cL_law 30 = .ok (.bipush 63, 2) := dz1 (k := 30) (m := 2) dzd0_cL_law_0 di_186 (Nat.zero_lt_succ _) rfl
set_option maxRecDepth 100000 in
theorem dzd0_cL_law_32 : DzLies cL_law (.mk ⟨[0x7e]⟩) 32 := dz_lies (m := 1) (Nat.zero_lt_succ _) rfl
theorem dL_law_32 : decode cL_law 32 = .ok (.iand, 1) := dz1 (k := 0) (m := 1) dzd0_cL_law_32 di_48 (Nat.zero_lt_succ _) rfl
theorem dL_law_33 : decode cL_law 33 = .ok (.tableswitch 1235 0 36 #[163, 196, 239, 272, 295, 358, 381, 414, 457, 480, 503, 536, 569, 602, 625, 658, 681, 704, 727, 780, 803, 816, 849, 882, 915, 948, 981, 1024, 1057, 1090, 1123, 1136, 1149, 1162, 1185, 1198, 1221], 163) := by decide +kernel
set_option maxRecDepth 100000 in
theorem dzd0_cL_law_192 : DzLies cL_law (.mk ⟨[0x00, 0x00, 0x04, 0xc5, 0x2b, 0x2a, 0x1d, 0x04, 0x60, 0x2e, 0x2a, 0x1d, 0x05, 0x60, 0x2e, 0xb6, 0x00, 0x0d, 0x57, 0x2c, 0x2a, 0x1d, 0x04, 0x60, 0x2e, 0x2a, 0x1d, 0x05, 0x60, 0x2e, 0xb6, 0x00, 0x11]⟩) 192 := dz_lies (m := 33) (Nat.zero_lt_succ _) rfl
theorem dL_law_196 : decode cL_law 196 = .ok (.aload_n 1, 1) := dz1 (k := 4) (m := 1) dzd0_cL_law_192 di_26 (Nat.zero_lt_succ _) rfl
theorem dL_law_197 : decode cL_law 197 = .ok (.aload_n 0, 1) := dz1 (k := 5) (m := 1) dzd0_cL_law_192 di_0 (Nat.zero_lt_succ _) rfl
theorem dL_law_198 : decode cL_law 198 = .ok (.iload_n 3, 1) := dz1 (k := 6) (m := 1) dzd0_cL_law_192 di_3 (Nat.zero_lt_succ _) rfl
theorem dL_law_199 : decode cL_law 199 = .ok (.iconst 1, 1) := dz1 (k := 7) (m := 1) dzd0_cL_law_192 di_10 (Nat.zero_lt_succ _) rfl
theorem dL_law_200 : decode cL_law 200 = .ok (.iadd, 1) := dz1 (k := 8) (m := 1) dzd0_cL_law_192 di_24 (Nat.zero_lt_succ _) rfl
theorem dL_law_201 : decode cL_law 201 = .ok (.iaload, 1) := dz1 (k := 9) (m := 1) dzd0_cL_law_192 di_30 (Nat.zero_lt_succ _) rfl
theorem dL_law_202 : decode cL_law 202 = .ok (.aload_n 0, 1) := dz1 (k := 10) (m := 1) dzd0_cL_law_192 di_0 (Nat.zero_lt_succ _) rfl
theorem dL_law_203 : decode cL_law 203 = .ok (.iload_n 3, 1) := dz1 (k := 11) (m := 1) dzd0_cL_law_192 di_3 (Nat.zero_lt_succ _) rfl
theorem dL_law_204 : decode cL_law 204 = .ok (.iconst 2, 1) := dz1 (k := 12) (m := 1) dzd0_cL_law_192 di_6 (Nat.zero_lt_succ _) rfl
theorem dL_law_205 : decode cL_law 205 = .ok (.iadd, 1) := dz1 (k := 13) (m := 1) dzd0_cL_law_192 di_24 (Nat.zero_lt_succ _) rfl
theorem dL_law_206 : decode cL_law 206 = .ok (.iaload, 1) := dz1 (k := 14) (m := 1) dzd0_cL_law_192 di_30 (Nat.zero_lt_succ _) rfl
theorem dL_law_207 : decode cL_law 207 = .ok (.invokevirtual 13, 3) := dz1 (k := 15) (m := 3) dzd0_cL_law_192 di_721 (Nat.zero_lt_succ _) rfl
theorem dL_law_210 : decode cL_law 210 = .ok (.pop, 1) := dz1 (k := 18) (m := 1) dzd0_cL_law_192 di_331 (Nat.zero_lt_succ _) rfl
theorem dL_law_211 : decode cL_law 211 = .ok (.aload_n 2, 1) := dz1 (k := 19) (m := 1) dzd0_cL_law_192 di_493 (Nat.zero_lt_succ _) rfl
theorem dL_law_212 : decode cL_law 212 = .ok (.aload_n 0, 1) := dz1 (k := 20) (m := 1) dzd0_cL_law_192 di_0 (Nat.zero_lt_succ _) rfl
theorem dL_law_213 : decode cL_law 213 = .ok (.iload_n 3, 1) := dz1 (k := 21) (m := 1) dzd0_cL_law_192 di_3 (Nat.zero_lt_succ _) rfl
theorem dL_law_214 : decode cL_law 214 = .ok (.iconst 1, 1) := dz1 (k := 22) (m := 1) dzd0_cL_law_192 di_10 (Nat.zero_lt_succ _) rfl
theorem dL_law_215 : decode cL_law 215 = .ok (.iadd, 1) := dz1 (k := 23) (m := 1) dzd0_cL_law_192 di_24 (Nat.zero_lt_succ _) rfl
theorem dL_law_216 : decode cL_law 216 = .ok (.iaload, 1) := dz1 (k := 24) (m := 1) dzd0_cL_law_192 di_30 (Nat.zero_lt_succ _) rfl
theorem dL_law_217 : decode cL_law 217 = .ok (.aload_n 0, 1) := dz1 (k := 25) (m := 1) dzd0_cL_law_192 di_0 (Nat.zero_lt_succ _) rfl
theorem dL_law_218 : decode cL_law 218 = .ok (.iload_n 3, 1) := dz1 (k := 26) (m := 1) dzd0_cL_law_192 di_3 (Nat.zero_lt_succ _) rfl
theorem dL_law_219 : decode cL_law 219 = .ok (.iconst 2, 1) := dz1 (k := 27) (m := 1) dzd0_cL_law_192 di_6 (Nat.zero_lt_succ _) rfl
theorem dL_law_220 : decode cL_law 220 = .ok (.iadd, 1) := dz1 (k := 28) (m := 1) dzd0_cL_law_192 di_24 (Nat.zero_lt_succ _) rfl
theorem dL_law_221 : decode cL_law 221 = .ok (.iaload, 1) := dz1 (k := 29) (m := 1) dzd0_cL_law_192 di_30 (Nat.zero_lt_succ _) rfl
theorem dL_law_222 : decode cL_law 222 = .ok (.invokevirtual 17, 3) := dz1 (k := 30) (m := 3) dzd0_cL_law_192 di_722 (Nat.zero_lt_succ _) rfl
set_option maxRecDepth 100000 in
theorem dzd0_cL_law_224 : DzLies cL_law (.mk ⟨[0x11, 0x57, 0xa7, 0x04, 0x12, 0x2b, 0x2a, 0x1d, 0x04, 0x60, 0x2e, 0x2a, 0x1d, 0x05, 0x60, 0x2e, 0x2a, 0x1d, 0x06, 0x60, 0x2e, 0xb6, 0x00, 0x12, 0x57, 0x2c, 0x2a, 0x1d, 0x04, 0x60, 0x2e, 0x2a]⟩) 224 := dz_lies (m := 32) (Nat.zero_lt_succ _) rfl
theorem dL_law_225 : decode cL_law 225 = .ok (.pop, 1) := dz1 (k := 1) (m := 1) dzd0_cL_law_224 di_331 (Nat.zero_lt_succ _) rfl
theorem dL_law_226 : decode cL_law 226 = .ok (.goto 1042, 3) := dz1 (k := 2) (m := 3) dzd0_cL_law_224 di_723 (Nat.zero_lt_succ _) rfl
theorem dL_law_229 : decode cL_law 229 = .ok (.aload_n 1, 1) := dz1 (k := 5) (m := 1) dzd0_cL_law_224 di_26 (Nat.zero_lt_succ _) rfl
theorem dL_law_230 : decode cL_law 230 = .ok (.aload_n 0, 1) := dz1 (k := 6) (m := 1) dzd0_cL_law_224 di_0 (Nat.zero_lt_succ _) rfl
theorem dL_law_231 : decode cL_law 231 = .ok (.iload_n 3, 1) := dz1 (k := 7) (m := 1) dzd0_cL_law_224 di_3 (Nat.zero_lt_succ _) rfl
theorem dL_law_232 : decode cL_law 232 = .ok (.iconst 1, 1) := dz1 (k := 8) (m := 1) dzd0_cL_law_224 di_10 (Nat.zero_lt_succ _) rfl
theorem dL_law_233 : decode cL_law 233 = .ok (.iadd, 1) := dz1 (k := 9) (m := 1) dzd0_cL_law_224 di_24 (Nat.zero_lt_succ _) rfl
theorem dL_law_234 : decode cL_law 234 = .ok (.iaload, 1) := dz1 (k := 10) (m := 1) dzd0_cL_law_224 di_30 (Nat.zero_lt_succ _) rfl
theorem dL_law_235 : decode cL_law 235 = .ok (.aload_n 0, 1) := dz1 (k := 11) (m := 1) dzd0_cL_law_224 di_0 (Nat.zero_lt_succ _) rfl
theorem dL_law_236 : decode cL_law 236 = .ok (.iload_n 3, 1) := dz1 (k := 12) (m := 1) dzd0_cL_law_224 di_3 (Nat.zero_lt_succ _) rfl
theorem dL_law_237 : decode cL_law 237 = .ok (.iconst 2, 1) := dz1 (k := 13) (m := 1) dzd0_cL_law_224 di_6 (Nat.zero_lt_succ _) rfl
theorem dL_law_238 : decode cL_law 238 = .ok (.iadd, 1) := dz1 (k := 14) (m := 1) dzd0_cL_law_224 di_24 (Nat.zero_lt_succ _) rfl
theorem dL_law_239 : decode cL_law 239 = .ok (.iaload, 1) := dz1 (k := 15) (m := 1) dzd0_cL_law_224 di_30 (Nat.zero_lt_succ _) rfl
theorem dL_law_240 : decode cL_law 240 = .ok (.aload_n 0, 1) := dz1 (k := 16) (m := 1) dzd0_cL_law_224 di_0 (Nat.zero_lt_succ _) rfl
theorem dL_law_241 : decode cL_law 241 = .ok (.iload_n 3, 1) := dz1 (k := 17) (m := 1) dzd0_cL_law_224 di_3 (Nat.zero_lt_succ _) rfl
theorem dL_law_242 : decode cL_law 242 = .ok (.iconst 3, 1) := dz1 (k := 18) (m := 1) dzd0_cL_law_224 di_4 (Nat.zero_lt_succ _) rfl
theorem dL_law_243 : decode cL_law 243 = .ok (.iadd, 1) := dz1 (k := 19) (m := 1) dzd0_cL_law_224 di_24 (Nat.zero_lt_succ _) rfl
theorem dL_law_244 : decode cL_law 244 = .ok (.iaload, 1) := dz1 (k := 20) (m := 1) dzd0_cL_law_224 di_30 (Nat.zero_lt_succ _) rfl
theorem dL_law_245 : decode cL_law 245 = .ok (.invokevirtual 18, 3) := dz1 (k := 21) (m := 3) dzd0_cL_law_224 di_724 (Nat.zero_lt_succ _) rfl
theorem dL_law_248 : decode cL_law 248 = .ok (.pop, 1) := dz1 (k := 24) (m := 1) dzd0_cL_law_224 di_331 (Nat.zero_lt_succ _) rfl
theorem dL_law_249 : decode cL_law 249 = .ok (.aload_n 2, 1) := dz1 (k := 25) (m := 1) dzd0_cL_law_224 di_493 (Nat.zero_lt_succ _) rfl
theorem dL_law_250 : decode cL_law 250 = .ok (.aload_n 0, 1) := dz1 (k := 26) (m := 1) dzd0_cL_law_224 di_0 (Nat.zero_lt_succ _) rfl
theorem dL_law_251 : decode cL_law 251 = .ok (.iload_n 3, 1) := dz1 (k := 27) (m := 1) dzd0_cL_law_224 di_3 (Nat.zero_lt_succ _) rfl
theorem dL_law_252 : decode cL_law 252 = .ok (.iconst 1, 1) := dz1 (k := 28) (m := 1) dzd0_cL_law_224 di_10 (Nat.zero_lt_succ _) rfl
theorem dL_law_253 : decode cL_law 253 = .ok (.iadd, 1) := dz1 (k := 29) (m := 1) dzd0_cL_law_224 di_24 (Nat.zero_lt_succ _) rfl
theorem dL_law_254 : decode cL_law 254 = .ok (.iaload, 1) := dz1 (k := 30) (m := 1) dzd0_cL_law_224 di_30 (Nat.zero_lt_succ _) rfl
theorem dL_law_255 : decode cL_law 255 = .ok (.aload_n 0, 1) := dz1 (k := 31) (m := 1) dzd0_cL_law_224 di_0 (Nat.zero_lt_succ _) rfl
set_option maxRecDepth 100000 in
theorem dzd0_cL_law_256 : DzLies cL_law (.mk ⟨[0x1d, 0x05, 0x60, 0x2e, 0x2a, 0x1d, 0x06, 0x60, 0x2e, 0xb6, 0x00, 0x16, 0x57, 0xa7, 0x03, 0xe7, 0x2b, 0x2a, 0x1d, 0x04, 0x60, 0x2e, 0x2a, 0x1d, 0x05, 0x60, 0x2e, 0xb6, 0x00, 0x17, 0x57, 0x2c]⟩) 256 := dz_lies (m := 32) (Nat.zero_lt_succ _) rfl
theorem dL_law_256 : decode cL_law 256 = .ok (.iload_n 3, 1) := dz1 (k := 0) (m := 1) dzd0_cL_law_256 di_3 (Nat.zero_lt_succ _) rfl
theorem dL_law_257 : decode cL_law 257 = .ok (.iconst 2, 1) := dz1 (k := 1) (m := 1) dzd0_cL_law_256 di_6 (Nat.zero_lt_succ _) rfl
theorem dL_law_258 : decode cL_law 258 = .ok (.iadd, 1) := dz1 (k := 2) (m := 1) dzd0_cL_law_256 di_24 (Nat.zero_lt_succ _) rfl
theorem dL_law_259 : decode cL_law 259 = .ok (.iaload, 1) := dz1 (k := 3) (m := 1) dzd0_cL_law_256 di_30 (Nat.zero_lt_succ _) rfl
theorem dL_law_260 : decode cL_law 260 = .ok (.aload_n 0, 1) := dz1 (k := 4) (m := 1) dzd0_cL_law_256 di_0 (Nat.zero_lt_succ _) rfl
theorem dL_law_261 : decode cL_law 261 = .ok (.iload_n 3, 1) := dz1 (k := 5) (m := 1) dzd0_cL_law_256 di_3 (Nat.zero_lt_succ _) rfl
theorem dL_law_262 : decode cL_law 262 = .ok (.iconst 3, 1) := dz1 (k := 6) (m := 1) dzd0_cL_law_256 di_4 (Nat.zero_lt_succ _) rfl
theorem dL_law_263 : decode cL_law 263 = .ok (.iadd, 1) := dz1 (k := 7) (m := 1) dzd0_cL_law_256 di_24 (Nat.zero_lt_succ _) rfl
theorem dL_law_264 : decode cL_law 264 = .ok (.iaload, 1) := dz1 (k := 8) (m := 1) dzd0_cL_law_256 di_30 (Nat.zero_lt_succ _) rfl
theorem dL_law_265 : decode cL_law 265 = .ok (.invokevirtual 22, 3) := dz1 (k := 9) (m := 3) dzd0_cL_law_256 di_725 (Nat.zero_lt_succ _) rfl
theorem dL_law_268 : decode cL_law 268 = .ok (.pop, 1) := dz1 (k := 12) (m := 1) dzd0_cL_law_256 di_331 (Nat.zero_lt_succ _) rfl
theorem dL_law_269 : decode cL_law 269 = .ok (.goto 999, 3) := dz1 (k := 13) (m := 3) dzd0_cL_law_256 di_726 (Nat.zero_lt_succ _) rfl
theorem dL_law_272 : decode cL_law 272 = .ok (.aload_n 1, 1) := dz1 (k := 16) (m := 1) dzd0_cL_law_256 di_26 (Nat.zero_lt_succ _) rfl
theorem dL_law_273 : decode cL_law 273 = .ok (.aload_n 0, 1) := dz1 (k := 17) (m := 1) dzd0_cL_law_256 di_0 (Nat.zero_lt_succ _) rfl
theorem dL_law_274 : decode cL_law 274 = .ok (.iload_n 3, 1) := dz1 (k := 18) (m := 1) dzd0_cL_law_256 di_3 (Nat.zero_lt_succ _) rfl
theorem dL_law_275 : decode cL_law 275 = .ok (.iconst 1, 1) := dz1 (k := 19) (m := 1) dzd0_cL_law_256 di_10 (Nat.zero_lt_succ _) rfl
theorem dL_law_276 : decode cL_law 276 = .ok (.iadd, 1) := dz1 (k := 20) (m := 1) dzd0_cL_law_256 di_24 (Nat.zero_lt_succ _) rfl
theorem dL_law_277 : decode cL_law 277 = .ok (.iaload, 1) := dz1 (k := 21) (m := 1) dzd0_cL_law_256 di_30 (Nat.zero_lt_succ _) rfl
theorem dL_law_278 : decode cL_law 278 = .ok (.aload_n 0, 1) := dz1 (k := 22) (m := 1) dzd0_cL_law_256 di_0 (Nat.zero_lt_succ _) rfl
theorem dL_law_279 : decode cL_law 279 = .ok (.iload_n 3, 1) := dz1 (k := 23) (m := 1) dzd0_cL_law_256 di_3 (Nat.zero_lt_succ _) rfl
theorem dL_law_280 : decode cL_law 280 = .ok (.iconst 2, 1) := dz1 (k := 24) (m := 1) dzd0_cL_law_256 di_6 (Nat.zero_lt_succ _) rfl
theorem dL_law_281 : decode cL_law 281 = .ok (.iadd, 1) := dz1 (k := 25) (m := 1) dzd0_cL_law_256 di_24 (Nat.zero_lt_succ _) rfl
theorem dL_law_282 : decode cL_law 282 = .ok (.iaload, 1) := dz1 (k := 26) (m := 1) dzd0_cL_law_256 di_30 (Nat.zero_lt_succ _) rfl
theorem dL_law_283 : decode cL_law 283 = .ok (.invokevirtual 23, 3) := dz1 (k := 27) (m := 3) dzd0_cL_law_256 di_727 (Nat.zero_lt_succ _) rfl
theorem dL_law_286 : decode cL_law 286 = .ok (.pop, 1) := dz1 (k := 30) (m := 1) dzd0_cL_law_256 di_331 (Nat.zero_lt_succ _) rfl
theorem dL_law_287 : decode cL_law 287 = .ok (.aload_n 2, 1) := dz1 (k := 31) (m := 1) dzd0_cL_law_256 di_493 (Nat.zero_lt_succ _) rfl
set_option maxRecDepth 100000 in
theorem dzd0_cL_law_288 : DzLies cL_law (.mk ⟨[0x2a, 0x1d, 0x04, 0x60, 0x2e, 0x2a, 0x1d, 0x05, 0x60, 0x2e, 0xb6, 0x00, 0x1a, 0x57, 0xa7, 0x03, 0xc6, 0x2b, 0x2a, 0x1d, 0x04, 0x60, 0x2e, 0xb6, 0x00, 0x1b, 0x57, 0x2c, 0x2a, 0x1d, 0x04, 0x60]⟩) 288 := dz_lies (m := 32) (Nat.zero_lt_succ _) rfl
theorem dL_law_288 : decode cL_law 288 = .ok (.aload_n 0, 1) := dz1 (k := 0) (m := 1) dzd0_cL_law_288 di_0 (Nat.zero_lt_succ _) rfl
theorem dL_law_289 : decode cL_law 289 = .ok (.iload_n 3, 1) := dz1 (k := 1) (m := 1) dzd0_cL_law_288 di_3 (Nat.zero_lt_succ _) rfl
theorem dL_law_290 : decode cL_law 290 = .ok (.iconst 1, 1) := dz1 (k := 2) (m := 1) dzd0_cL_law_288 di_10 (Nat.zero_lt_succ _) rfl
theorem dL_law_291 : decode cL_law 291 = .ok (.iadd, 1) := dz1 (k := 3) (m := 1) dzd0_cL_law_288 di_24 (Nat.zero_lt_succ _) rfl
theorem dL_law_292 : decode cL_law 292 = .ok (.iaload, 1) := dz1 (k := 4) (m := 1) dzd0_cL_law_288 di_30 (Nat.zero_lt_succ _) rfl
theorem dL_law_293 : decode cL_law 293 = .ok (.aload_n 0, 1) := dz1 (k := 5) (m := 1) dzd0_cL_law_288 di_0 (Nat.zero_lt_succ _) rfl
theorem dL_law_294 : decode cL_law 294 = .ok (.iload_n 3, 1) := dz1 (k := 6) (m := 1) dzd0_cL_law_288 di_3 (Nat.zero_lt_succ _) rfl
theorem dL_law_295 : decode cL_law 295 = .ok (.iconst 2, 1) := dz1 (k := 7) (m := 1) dzd0_cL_law_288 di_6 (Nat.zero_lt_succ _) rfl
theorem dL_law_296 : decode cL_law 296 = .ok (.iadd, 1) := dz1 (k := 8) (m := 1) dzd0_cL_law_288 di_24 (Nat.zero_lt_succ _) rfl
theorem dL_law_297 : decode cL_law 297 = .ok (.iaload, 1) := dz1 (k := 9) (m := 1) dzd0_cL_law_288 di_30 (Nat.zero_lt_succ _) rfl
theorem dL_law_298 : decode cL_law 298 = .ok (.invokevirtual 26, 3) := dz1 (k := 10) (m := 3) dzd0_cL_law_288 di_728 (Nat.zero_lt_succ _) rfl
theorem dL_law_301 : decode cL_law 301 = .ok (.pop, 1) := dz1 (k := 13) (m := 1) dzd0_cL_law_288 di_331 (Nat.zero_lt_succ _) rfl
theorem dL_law_302 : decode cL_law 302 = .ok (.goto 966, 3) := dz1 (k := 14) (m := 3) dzd0_cL_law_288 di_729 (Nat.zero_lt_succ _) rfl
theorem dL_law_305 : decode cL_law 305 = .ok (.aload_n 1, 1) := dz1 (k := 17) (m := 1) dzd0_cL_law_288 di_26 (Nat.zero_lt_succ _) rfl
theorem dL_law_306 : decode cL_law 306 = .ok (.aload_n 0, 1) := dz1 (k := 18) (m := 1) dzd0_cL_law_288 di_0 (Nat.zero_lt_succ _) rfl
theorem dL_law_307 : decode cL_law 307 = .ok (.iload_n 3, 1) := dz1 (k := 19) (m := 1) dzd0_cL_law_288 di_3 (Nat.zero_lt_succ _) rfl
theorem dL_law_308 : decode cL_law 308 = .ok (.iconst 1, 1) := dz1 (k := 20) (m := 1) dzd0_cL_law_288 di_10 (Nat.zero_lt_succ _) rfl
theorem dL_law_309 : decode cL_law 309 = .ok (.iadd, 1) := dz1 (k := 21) (m := 1) dzd0_cL_law_288 di_24 (Nat.zero_lt_succ _) rfl
theorem dL_law_310 : decode cL_law 310 = .ok (.iaload, 1) := dz1 (k := 22) (m := 1) dzd0_cL_law_288 di_30 (Nat.zero_lt_succ _) rfl
theorem dL_law_311 : decode cL_law 311 = .ok (.invokevirtual 27, 3) := dz1 (k := 23) (m := 3) dzd0_cL_law_288 di_730 (Nat.zero_lt_succ _) rfl
theorem dL_law_314 : decode cL_law 314 = .ok (.pop, 1) := dz1 (k := 26) (m := 1) dzd0_cL_law_288 di_331 (Nat.zero_lt_succ _) rfl
theorem dL_law_315 : decode cL_law 315 = .ok (.aload_n 2, 1) := dz1 (k := 27) (m := 1) dzd0_cL_law_288 di_493 (Nat.zero_lt_succ _) rfl
theorem dL_law_316 : decode cL_law 316 = .ok (.aload_n 0, 1) := dz1 (k := 28) (m := 1) dzd0_cL_law_288 di_0 (Nat.zero_lt_succ _) rfl
theorem dL_law_317 : decode cL_law 317 = .ok (.iload_n 3, 1) := dz1 (k := 29) (m := 1) dzd0_cL_law_288 di_3 (Nat.zero_lt_succ _) rfl
theorem dL_law_318 : decode cL_law 318 = .ok (.iconst 1, 1) := dz1 (k := 30) (m := 1) dzd0_cL_law_288 di_10 (Nat.zero_lt_succ _) rfl
theorem dL_law_319 : decode cL_law 319 = .ok (.iadd, 1) := dz1 (k := 31) (m := 1) dzd0_cL_law_288 di_24 (Nat.zero_lt_succ _) rfl
set_option maxRecDepth 100000 in
theorem dzd0_cL_law_320 : DzLies cL_law (.mk ⟨[0x2e, 0xb6, 0x00, 0x1f, 0x57, 0xa7, 0x03, 0xaf, 0x2b, 0x2a, 0x1d, 0x04, 0x60, 0x2e, 0x2a, 0x1d, 0x05, 0x60, 0x2e, 0x2a, 0x1d, 0x06, 0x60, 0x2e, 0x2a, 0x1d, 0x07, 0x60, 0x2e, 0x2a, 0x1d, 0x08]⟩) 320 := dz_lies (m := 32) (Nat.zero_lt_succ _) rfl
theorem dL_law_320 : decode cL_law 320 = .ok (.iaload, 1) := dz1 (k := 0) (m := 1) dzd0_cL_law_320 di_30 (Nat.zero_lt_succ _) rfl
theorem dL_law_321 : decode cL_law 321 = .ok (.invokevirtual 31, 3) := dz1 (k := 1) (m := 3) dzd0_cL_law_320 di_731 (Nat.zero_lt_succ _) rfl
theorem dL_law_324 : decode cL_law 324 = .ok (.pop, 1) := dz1 (k := 4) (m := 1) dzd0_cL_law_320 di_331 (Nat.zero_lt_succ _) rfl
theorem dL_law_325 : decode cL_law 325 = .ok (.goto 943, 3) := dz1 (k := 5) (m := 3) dzd0_cL_law_320 di_732 (Nat.zero_lt_succ _) rfl
theorem dL_law_328 : decode cL_law 328 = .ok (.aload_n 1, 1) := dz1 (k := 8) (m := 1) dzd0_cL_law_320 di_26 (Nat.zero_lt_succ _) rfl
theorem dL_law_329 : decode cL_law 329 = .ok (.aload_n 0, 1) := dz1 (k := 9) (m := 1) dzd0_cL_law_320 di_0 (Nat.zero_lt_succ _) rfl
theorem dL_law_330 : decode cL_law 330 = .ok (.iload_n 3, 1) := dz1 (k := 10) (m := 1) dzd0_cL_law_320 di_3 (Nat.zero_lt_succ _) rfl
theorem dL_law_331 : decode cL_law 331 = .ok (.iconst 1, 1) := dz1 (k := 11) (m := 1) dzd0_cL_law_320 di_10 (Nat.zero_lt_succ _) rfl
theorem dL_law_332 : decode cL_law 332 = .ok (.iadd, 1) := dz1 (k := 12) (m := 1) dzd0_cL_law_320 di_24 (Nat.zero_lt_succ _) rfl
theorem dL_law_333 : decode cL_law 333 = .ok (.iaload, 1) := dz1 (k := 13) (m := 1) dzd0_cL_law_320 di_30 (Nat.zero_lt_succ _) rfl
theorem dL_law_334 : decode cL_law 334 = .ok (.aload_n 0, 1) := dz1 (k := 14) (m := 1) dzd0_cL_law_320 di_0 (Nat.zero_lt_succ _) rfl
theorem dL_law_335 : decode cL_law 335 = .ok (.iload_n 3, 1) := dz1 (k := 15) (m := 1) dzd0_cL_law_320 di_3 (Nat.zero_lt_succ _) rfl
theorem dL_law_336 : decode cL_law 336 = .ok (.iconst 2, 1) := dz1 (k := 16) (m := 1) dzd0_cL_law_320 di_6 (Nat.zero_lt_succ _) rfl
theorem dL_law_337 : decode cL_law 337 = .ok (.iadd, 1) := dz1 (k := 17) (m := 1) dzd0_cL_law_320 di_24 (Nat.zero_lt_succ _) rfl
theorem dL_law_338 : decode cL_law 338 = .ok (.iaload, 1) := dz1 (k := 18) (m := 1) dzd0_cL_law_320 di_30 (Nat.zero_lt_succ _) rfl
theorem dL_law_339 : decode cL_law 339 = .ok (.aload_n 0, 1) := dz1 (k := 19) (m := 1) dzd0_cL_law_320 di_0 (Nat.zero_lt_succ _) rfl
theorem dL_law_340 : decode cL_law 340 = .ok (.iload_n 3, 1) := dz1 (k := 20) (m := 1) dzd0_cL_law_320 di_3 (Nat.zero_lt_succ _) rfl
theorem dL_law_341 : decode cL_law 341 = .ok (.iconst 3, 1) := dz1 (k := 21) (m := 1) dzd0_cL_law_320 di_4 (Nat.zero_lt_succ _) rfl
theorem dL_law_342 : decode cL_law 342 = .ok (.iadd, 1) := dz1 (k := 22) (m := 1) dzd0_cL_law_320 di_24 (Nat.zero_lt_succ _) rfl
theorem dL_law_343 : decode cL_law 343 = .ok (.iaload, 1) := dz1 (k := 23) (m := 1) dzd0_cL_law_320 di_30 (Nat.zero_lt_succ _) rfl
theorem dL_law_344 : decode cL_law 344 = .ok (.aload_n 0, 1) := dz1 (k := 24) (m := 1) dzd0_cL_law_320 di_0 (Nat.zero_lt_succ _) rfl
theorem dL_law_345 : decode cL_law 345 = .ok (.iload_n 3, 1) := dz1 (k := 25) (m := 1) dzd0_cL_law_320 di_3 (Nat.zero_lt_succ _) rfl
theorem dL_law_346 : decode cL_law 346 = .ok (.iconst 4, 1) := dz1 (k := 26) (m := 1) dzd0_cL_law_320 di_33 (Nat.zero_lt_succ _) rfl
theorem dL_law_347 : decode cL_law 347 = .ok (.iadd, 1) := dz1 (k := 27) (m := 1) dzd0_cL_law_320 di_24 (Nat.zero_lt_succ _) rfl
theorem dL_law_348 : decode cL_law 348 = .ok (.iaload, 1) := dz1 (k := 28) (m := 1) dzd0_cL_law_320 di_30 (Nat.zero_lt_succ _) rfl
theorem dL_law_349 : decode cL_law 349 = .ok (.aload_n 0, 1) := dz1 (k := 29) (m := 1) dzd0_cL_law_320 di_0 (Nat.zero_lt_succ _) rfl
theorem dL_law_350 : decode cL_law 350 = .ok (.iload_n 3, 1) := dz1 (k := 30) (m := 1) dzd0_cL_law_320 di_3 (Nat.zero_lt_succ _) rfl
theorem dL_law_351 : decode cL_law 351 = .ok (.iconst 5, 1) := dz1 (k := 31) (m := 1) dzd0_cL_law_320 di_145 (Nat.zero_lt_succ _) rfl
set_option maxRecDepth 100000 in
theorem dzd0_cL_law_352 : DzLies cL_law (.mk ⟨[0x60, 0x2e, 0xb6, 0x00, 0x20, 0x57, 0x2c, 0x2a, 0x1d, 0x04, 0x60, 0x2e, 0x2a, 0x1d, 0x05, 0x60, 0x2e, 0x2a, 0x1d, 0x06, 0x60, 0x2e, 0x2a, 0x1d, 0x07, 0x60, 0x2e, 0x2a, 0x1d, 0x08, 0x60, 0x2e]⟩) 352 := dz_lies (m := 32) (Nat.zero_lt_succ _) rfl
theorem dL_law_352 : decode cL_law 352 = .ok (.iadd, 1) := dz1 (k := 0) (m := 1) dzd0_cL_law_352 di_24 (Nat.zero_lt_succ _) rfl
theorem dL_law_353 : decode cL_law 353 = .ok (.iaload, 1) := dz1 (k := 1) (m := 1) dzd0_cL_law_352 di_30 (Nat.zero_lt_succ _) rfl
theorem dL_law_354 : decode cL_law 354 = .ok (.invokevirtual 32, 3) := dz1 (k := 2) (m := 3) dzd0_cL_law_352 di_733 (Nat.zero_lt_succ _) rfl
theorem dL_law_357 : decode cL_law 357 = .ok (.pop, 1) := dz1 (k := 5) (m := 1) dzd0_cL_law_352 di_331 (Nat.zero_lt_succ _) rfl
theorem dL_law_358 : decode cL_law 358 = .ok (.aload_n 2, 1) := dz1 (k := 6) (m := 1) dzd0_cL_law_352 di_493 (Nat.zero_lt_succ _) rfl
theorem dL_law_359 : decode cL_law 359 = .ok (.aload_n 0, 1) := dz1 (k := 7) (m := 1) dzd0_cL_law_352 di_0 (Nat.zero_lt_succ _) rfl
theorem dL_law_360 : decode cL_law 360 = .ok (.iload_n 3, 1) := dz1 (k := 8) (m := 1) dzd0_cL_law_352 di_3 (Nat.zero_lt_succ _) rfl
theorem dL_law_361 : decode cL_law 361 = .ok (.iconst 1, 1) := dz1 (k := 9) (m := 1) dzd0_cL_law_352 di_10 (Nat.zero_lt_succ _) rfl
theorem dL_law_362 : decode cL_law 362 = .ok (.iadd, 1) := dz1 (k := 10) (m := 1) dzd0_cL_law_352 di_24 (Nat.zero_lt_succ _) rfl
theorem dL_law_363 : decode cL_law 363 = .ok (.iaload, 1) := dz1 (k := 11) (m := 1) dzd0_cL_law_352 di_30 (Nat.zero_lt_succ _) rfl
theorem dL_law_364 : decode cL_law 364 = .ok (.aload_n 0, 1) := dz1 (k := 12) (m := 1) dzd0_cL_law_352 di_0 (Nat.zero_lt_succ _) rfl
theorem dL_law_365 : decode cL_law 365 = .ok (.iload_n 3, 1) := dz1 (k := 13) (m := 1) dzd0_cL_law_352 di_3 (Nat.zero_lt_succ _) rfl
theorem dL_law_366 : decode cL_law 366 = .ok (.iconst 2, 1) := dz1 (k := 14) (m := 1) dzd0_cL_law_352 di_6 (Nat.zero_lt_succ _) rfl
theorem dL_law_367 : decode cL_law 367 = .ok (.iadd, 1) := dz1 (k := 15) (m := 1) dzd0_cL_law_352 di_24 (Nat.zero_lt_succ _) rfl
theorem dL_law_368 : decode cL_law 368 = .ok (.iaload, 1) := dz1 (k := 16) (m := 1) dzd0_cL_law_352 di_30 (Nat.zero_lt_succ _) rfl
theorem dL_law_369 : decode cL_law 369 = .ok (.aload_n 0, 1) := dz1 (k := 17) (m := 1) dzd0_cL_law_352 di_0 (Nat.zero_lt_succ _) rfl
theorem dL_law_370 : decode cL_law 370 = .ok (.iload_n 3, 1) := dz1 (k := 18) (m := 1) dzd0_cL_law_352 di_3 (Nat.zero_lt_succ _) rfl
theorem dL_law_371 : decode cL_law 371 = .ok (.iconst 3, 1) := dz1 (k := 19) (m := 1) dzd0_cL_law_352 di_4 (Nat.zero_lt_succ _) rfl
theorem dL_law_372 : decode cL_law 372 = .ok (.iadd, 1) := dz1 (k := 20) (m := 1) dzd0_cL_law_352 di_24 (Nat.zero_lt_succ _) rfl
theorem dL_law_373 : decode cL_law 373 = .ok (.iaload, 1) := dz1 (k := 21) (m := 1) dzd0_cL_law_352 di_30 (Nat.zero_lt_succ _) rfl
theorem dL_law_374 : decode cL_law 374 = .ok (.aload_n 0, 1) := dz1 (k := 22) (m := 1) dzd0_cL_law_352 di_0 (Nat.zero_lt_succ _) rfl
theorem dL_law_375 : decode cL_law 375 = .ok (.iload_n 3, 1) := dz1 (k := 23) (m := 1) dzd0_cL_law_352 di_3 (Nat.zero_lt_succ _) rfl
theorem dL_law_376 : decode cL_law 376 = .ok (.iconst 4, 1) := dz1 (k := 24) (m := 1) dzd0_cL_law_352 di_33 (Nat.zero_lt_succ _) rfl
theorem dL_law_377 : decode cL_law 377 = .ok (.iadd, 1) := dz1 (k := 25) (m := 1) dzd0_cL_law_352 di_24 (Nat.zero_lt_succ _) rfl
theorem dL_law_378 : decode cL_law 378 = .ok (.iaload, 1) := dz1 (k := 26) (m := 1) dzd0_cL_law_352 di_30 (Nat.zero_lt_succ _) rfl
theorem dL_law_379 : decode cL_law 379 = .ok (.aload_n 0, 1) := dz1 (k := 27) (m := 1) dzd0_cL_law_352 di_0 (Nat.zero_lt_succ _) rfl
theorem dL_law_380 : decode cL_law 380 = .ok (.iload_n 3, 1) := dz1 (k := 28) (m := 1) dzd0_cL_law_352 di_3 (Nat.zero_lt_succ _) rfl
theorem dL_law_381 : decode cL_law 381 = .ok (.iconst 5, 1) := dz1 (k := 29) (m := 1) dzd0_cL_law_352 di_145 (Nat.zero_lt_succ _) rfl
theorem dL_law_382 : decode cL_law 382 = .ok (.iadd, 1) := dz1 (k := 30) (m := 1) dzd0_cL_law_352 di_24 (Nat.zero_lt_succ _) rfl
theorem dL_law_383 : decode cL_law 383 = .ok (.iaload, 1) := dz1 (k := 31) (m := 1) dzd0_cL_law_352 di_30 (Nat.zero_lt_succ _) rfl
set_option maxRecDepth 100000 in
theorem dzd0_cL_law_384 : DzLies cL_law (.mk ⟨[0xb6, 0x00, 0x24, 0x57, 0xa7, 0x03, 0x70, 0x2b, 0x2a, 0x1d, 0x04, 0x60, 0x2e, 0xb6, 0x00, 0x25, 0x57, 0x2c, 0x2a, 0x1d, 0x04, 0x60, 0x2e, 0xb6, 0x00, 0x28, 0x57, 0xa7, 0x03, 0x59, 0x2b, 0x2a]⟩) 384 := dz_lies (m := 32) (Nat.zero_lt_succ _) rfl
theorem dL_law_384 : decode cL_law 384 = .ok (.invokevirtual 36, 3) := dz1 (k := 0) (m := 3) dzd0_cL_law_384 di_734 (Nat.zero_lt_succ _) rfl
theorem dL_law_387 : decode cL_law 387 = .ok (.pop, 1) := dz1 (k := 3) (m := 1) dzd0_cL_law_384 di_331 (Nat.zero_lt_succ _) rfl
theorem dL_law_388 : decode cL_law 388 = .ok (.goto 880, 3) := dz1 (k := 4) (m := 3) dzd0_cL_law_384 di_735 (Nat.zero_lt_succ _) rfl
theorem dL_law_391 : decode cL_law 391 = .ok (.aload_n 1, 1) := dz1 (k := 7) (m := 1) dzd0_cL_law_384 di_26 (Nat.zero_lt_succ _) rfl
theorem dL_law_392 : decode cL_law 392 = .ok (.aload_n 0, 1) := dz1 (k := 8) (m := 1) dzd0_cL_law_384 di_0 (Nat.zero_lt_succ _) rfl
theorem dL_law_393 : decode cL_law 393 = .ok (.iload_n 3, 1) := dz1 (k := 9) (m := 1) dzd0_cL_law_384 di_3 (Nat.zero_lt_succ _) rfl
theorem dL_law_394 : decode cL_law 394 = .ok (.iconst 1, 1) := dz1 (k := 10) (m := 1) dzd0_cL_law_384 di_10 (Nat.zero_lt_succ _) rfl
theorem dL_law_395 : decode cL_law 395 = .ok (.iadd, 1) := dz1 (k := 11) (m := 1) dzd0_cL_law_384 di_24 (Nat.zero_lt_succ _) rfl
theorem dL_law_396 : decode cL_law 396 = .ok (.iaload, 1) := dz1 (k := 12) (m := 1) dzd0_cL_law_384 di_30 (Nat.zero_lt_succ _) rfl
theorem dL_law_397 : decode cL_law 397 = .ok (.invokevirtual 37, 3) := dz1 (k := 13) (m := 3) dzd0_cL_law_384 di_736 (Nat.zero_lt_succ _) rfl
theorem dL_law_400 : decode cL_law 400 = .ok (.pop, 1) := dz1 (k := 16) (m := 1) dzd0_cL_law_384 di_331 (Nat.zero_lt_succ _) rfl
theorem dL_law_401 : decode cL_law 401 = .ok (.aload_n 2, 1) := dz1 (k := 17) (m := 1) dzd0_cL_law_384 di_493 (Nat.zero_lt_succ _) rfl
theorem dL_law_402 : decode cL_law 402 = .ok (.aload_n 0, 1) := dz1 (k := 18) (m := 1) dzd0_cL_law_384 di_0 (Nat.zero_lt_succ _) rfl
theorem dL_law_403 : decode cL_law 403 = .ok (.iload_n 3, 1) := dz1 (k := 19) (m := 1) dzd0_cL_law_384 di_3 (Nat.zero_lt_succ _) rfl
theorem dL_law_404 : decode cL_law 404 = .ok (.iconst 1, 1) := dz1 (k := 20) (m := 1) dzd0_cL_law_384 di_10 (Nat.zero_lt_succ _) rfl
theorem dL_law_405 : decode cL_law 405 = .ok (.iadd, 1) := dz1 (k := 21) (m := 1) dzd0_cL_law_384 di_24 (Nat.zero_lt_succ _) rfl
theorem dL_law_406 : decode cL_law 406 = .ok (.iaload, 1) := dz1 (k := 22) (m := 1) dzd0_cL_law_384 di_30 (Nat.zero_lt_succ _) rfl
theorem dL_law_407 : decode cL_law 407 = .ok (.invokevirtual 40, 3) := dz1 (k := 23) (m := 3) dzd0_cL_law_384 di_737 (Nat.zero_lt_succ _) rfl
theorem dL_law_410 : decode cL_law 410 = .ok (.pop, 1) := dz1 (k := 26) (m := 1) dzd0_cL_law_384 di_331 (Nat.zero_lt_succ _) rfl
theorem dL_law_411 : decode cL_law 411 = .ok (.goto 857, 3) := dz1 (k := 27) (m := 3) dzd0_cL_law_384 di_738 (Nat.zero_lt_succ _) rfl
theorem dL_law_414 : decode cL_law 414 = .ok (.aload_n 1, 1) := dz1 (k := 30) (m := 1) dzd0_cL_law_384 di_26 (Nat.zero_lt_succ _) rfl
theorem dL_law_415 : decode cL_law 415 = .ok (.aload_n 0, 1) := dz1 (k := 31) (m := 1) dzd0_cL_law_384 di_0 (Nat.zero_lt_succ _) rfl
set_option maxRecDepth 100000 in
theorem dzd0_cL_law_416 : DzLies cL_law (.mk ⟨[0x1d, 0x04, 0x60, 0x2e, 0x2a, 0x1d, 0x05, 0x60, 0x2e, 0xb6, 0x00, 0x29, 0x57, 0x2c, 0x2a, 0x1d, 0x04, 0x60, 0x2e, 0x2a, 0x1d, 0x05, 0x60, 0x2e, 0xb6, 0x00, 0x2c, 0x57, 0xa7, 0x03, 0x38, 0x2b]⟩) 416 := dz_lies (m := 32) (Nat.zero_lt_succ _) rfl
theorem dL_law_416 : decode cL_law 416 = .ok (.iload_n 3, 1) := dz1 (k := 0) (m := 1) dzd0_cL_law_416 di_3 (Nat.zero_lt_succ _) rfl
theorem dL_law_417 : decode cL_law 417 = .ok (.iconst 1, 1) := dz1 (k := 1) (m := 1) dzd0_cL_law_416 di_10 (Nat.zero_lt_succ _) rfl
theorem dL_law_418 : decode cL_law 418 = .ok (.iadd, 1) := dz1 (k := 2) (m := 1) dzd0_cL_law_416 di_24 (Nat.zero_lt_succ _) rfl
theorem dL_law_419 : decode cL_law 419 = .ok (.iaload, 1) := dz1 (k := 3) (m := 1) dzd0_cL_law_416 di_30 (Nat.zero_lt_succ _) rfl
theorem dL_law_420 : decode cL_law 420 = .ok (.aload_n 0, 1) := dz1 (k := 4) (m := 1) dzd0_cL_law_416 di_0 (Nat.zero_lt_succ _) rfl
theorem dL_law_421 : decode cL_law 421 = .ok (.iload_n 3, 1) := dz1 (k := 5) (m := 1) dzd0_cL_law_416 di_3 (Nat.zero_lt_succ _) rfl
theorem dL_law_422 : decode cL_law 422 = .ok (.iconst 2, 1) := dz1 (k := 6) (m := 1) dzd0_cL_law_416 di_6 (Nat.zero_lt_succ _) rfl
theorem dL_law_423 : decode cL_law 423 = .ok (.iadd, 1) := dz1 (k := 7) (m := 1) dzd0_cL_law_416 di_24 (Nat.zero_lt_succ _) rfl
theorem dL_law_424 : decode cL_law 424 = .ok (.iaload, 1) := dz1 (k := 8) (m := 1) dzd0_cL_law_416 di_30 (Nat.zero_lt_succ _) rfl
theorem dL_law_425 : decode cL_law 425 = .ok (.invokevirtual 41, 3) := dz1 (k := 9) (m := 3) dzd0_cL_law_416 di_739 (Nat.zero_lt_succ _) rfl
theorem dL_law_428 : decode cL_law 428 = .ok (.pop, 1) := dz1 (k := 12) (m := 1) dzd0_cL_law_416 di_331 (Nat.zero_lt_succ _) rfl
theorem dL_law_429 : decode cL_law 429 = .ok (.aload_n 2, 1) := dz1 (k := 13) (m := 1) dzd0_cL_law_416 di_493 (Nat.zero_lt_succ _) rfl
theorem dL_law_430 : decode cL_law 430 = .ok (.aload_n 0, 1) := dz1 (k := 14) (m := 1) dzd0_cL_law_416 di_0 (Nat.zero_lt_succ _) rfl
theorem dL_law_431 : decode cL_law 431 = .ok (.iload_n 3, 1) := dz1 (k := 15) (m := 1) dzd0_cL_law_416 di_3 (Nat.zero_lt_succ _) rfl
theorem dL_law_432 : decode cL_law 432 = .ok (.iconst 1, 1) := dz1 (k := 16) (m := 1) dzd0_cL_law_416 di_10 (Nat.zero_lt_succ _) rfl
theorem dL_law_433 : decode cL_law 433 = .ok (.iadd, 1) := dz1 (k := 17) (m := 1) dzd0_cL_law_416 di_24 (Nat.zero_lt_succ _) rfl
theorem dL_law_434 : decode cL_law 434 = .ok (.iaload, 1) := dz1 (k := 18) (m := 1) dzd0_cL_law_416 di_30 (Nat.zero_lt_succ _) rfl
theorem dL_law_435 : decode cL_law 435 = .ok (.aload_n 0, 1) := dz1 (k := 19) (m := 1) dzd0_cL_law_416 di_0 (Nat.zero_lt_succ _) rfl
theorem dL_law_436 : decode cL_law 436 = .ok (.iload_n 3, 1) := dz1 (k := 20) (m := 1) dzd0_cL_law_416 di_3 (Nat.zero_lt_succ _) rfl
theorem dL_law_437 : decode cL_law 437 = .ok (.iconst 2, 1) := dz1 (k := 21) (m := 1) dzd0_cL_law_416 di_6 (Nat.zero_lt_succ _) rfl
theorem dL_law_438 : decode cL_law 438 = .ok (.iadd, 1) := dz1 (k := 22) (m := 1) dzd0_cL_law_416 di_24 (Nat.zero_lt_succ _) rfl
theorem dL_law_439 : decode cL_law 439 = .ok (.iaload, 1) := dz1 (k := 23) (m := 1) dzd0_cL_law_416 di_30 (Nat.zero_lt_succ _) rfl
theorem dL_law_440 : decode cL_law 440 = .ok (.invokevirtual 44, 3) := dz1 (k := 24) (m := 3) dzd0_cL_law_416 di_740 (Nat.zero_lt_succ _) rfl
theorem dL_law_443 : decode cL_law 443 = .ok (.pop, 1) := dz1 (k := 27) (m := 1) dzd0_cL_law_416 di_331 (Nat.zero_lt_succ _) rfl
theorem dL_law_444 : decode cL_law 444 = .ok (.goto 824, 3) := dz1 (k := 28) (m := 3) dzd0_cL_law_416 di_741 (Nat.zero_lt_succ _) rfl
theorem dL_law_447 : decode cL_law 447 = .ok (.aload_n 1, 1) := dz1 (k := 31) (m := 1) dzd0_cL_law_416 di_26 (Nat.zero_lt_succ _) rfl
set_option maxRecDepth 100000 in
theorem dzd0_cL_law_448 : DzLies cL_law (.mk ⟨[0x2a, 0x1d, 0x04, 0x60, 0x2e, 0x2a, 0x1d, 0x05, 0x60, 0x2e, 0x2a, 0x1d, 0x06, 0x60, 0x2e, 0xb6, 0x00, 0x2d, 0x57, 0x2c, 0x2a, 0x1d, 0x04, 0x60, 0x2e, 0x2a, 0x1d, 0x05, 0x60, 0x2e, 0x2a, 0x1d]⟩) 448 := dz_lies (m := 32) (Nat.zero_lt_succ _) rfl
theorem dL_law_448 : decode cL_law 448 = .ok (.aload_n 0, 1) := dz1 (k := 0) (m := 1) dzd0_cL_law_448 di_0 (Nat.zero_lt_succ _) rfl
theorem dL_law_449 : decode cL_law 449 = .ok (.iload_n 3, 1) := dz1 (k := 1) (m := 1) dzd0_cL_law_448 di_3 (Nat.zero_lt_succ _) rfl
theorem dL_law_450 : decode cL_law 450 = .ok (.iconst 1, 1) := dz1 (k := 2) (m := 1) dzd0_cL_law_448 di_10 (Nat.zero_lt_succ _) rfl
theorem dL_law_451 : decode cL_law 451 = .ok (.iadd, 1) := dz1 (k := 3) (m := 1) dzd0_cL_law_448 di_24 (Nat.zero_lt_succ _) rfl
theorem dL_law_452 : decode cL_law 452 = .ok (.iaload, 1) := dz1 (k := 4) (m := 1) dzd0_cL_law_448 di_30 (Nat.zero_lt_succ _) rfl
theorem dL_law_453 : decode cL_law 453 = .ok (.aload_n 0, 1) := dz1 (k := 5) (m := 1) dzd0_cL_law_448 di_0 (Nat.zero_lt_succ _) rfl
theorem dL_law_454 : decode cL_law 454 = .ok (.iload_n 3, 1) := dz1 (k := 6) (m := 1) dzd0_cL_law_448 di_3 (Nat.zero_lt_succ _) rfl
theorem dL_law_455 : decode cL_law 455 = .ok (.iconst 2, 1) := dz1 (k := 7) (m := 1) dzd0_cL_law_448 di_6 (Nat.zero_lt_succ _) rfl
theorem dL_law_456 : decode cL_law 456 = .ok (.iadd, 1) := dz1 (k := 8) (m := 1) dzd0_cL_law_448 di_24 (Nat.zero_lt_succ _) rfl
theorem dL_law_457 : decode cL_law 457 = .ok (.iaload, 1) := dz1 (k := 9) (m := 1) dzd0_cL_law_448 di_30 (Nat.zero_lt_succ _) rfl
theorem dL_law_458 : decode cL_law 458 = .ok (.aload_n 0, 1) := dz1 (k := 10) (m := 1) dzd0_cL_law_448 di_0 (Nat.zero_lt_succ _) rfl
theorem dL_law_459 : decode cL_law 459 = .ok (.iload_n 3, 1) := dz1 (k := 11) (m := 1) dzd0_cL_law_448 di_3 (Nat.zero_lt_succ _) rfl
theorem dL_law_460 : decode cL_law 460 = .ok (.iconst 3, 1) := dz1 (k := 12) (m := 1) dzd0_cL_law_448 di_4 (Nat.zero_lt_succ _) rfl
theorem dL_law_461 : decode cL_law 461 = .ok (.iadd, 1) := dz1 (k := 13) (m := 1) dzd0_cL_law_448 di_24 (Nat.zero_lt_succ _) rfl
theorem dL_law_462 : decode cL_law 462 = .ok (.iaload, 1) := dz1 (k := 14) (m := 1) dzd0_cL_law_448 di_30 (Nat.zero_lt_succ _) rfl
theorem dL_law_463 : decode cL_law 463 = .ok (.invokevirtual 45, 3) := dz1 (k := 15) (m := 3) dzd0_cL_law_448 di_742 (Nat.zero_lt_succ _) rfl
theorem dL_law_466 : decode cL_law 466 = .ok (.pop, 1) := dz1 (k := 18) (m := 1) dzd0_cL_law_448 di_331 (Nat.zero_lt_succ _) rfl
theorem dL_law_467 : decode cL_law 467 = .ok (.aload_n 2, 1) := dz1 (k := 19) (m := 1) dzd0_cL_law_448 di_493 (Nat.zero_lt_succ _) rfl
theorem dL_law_468 : decode cL_law 468 = .ok (.aload_n 0, 1) := dz1 (k := 20) (m := 1) dzd0_cL_law_448 di_0 (Nat.zero_lt_succ _) rfl
theorem dL_law_469 : decode cL_law 469 = .ok (.iload_n 3, 1) := dz1 (k := 21) (m := 1) dzd0_cL_law_448 di_3 (Nat.zero_lt_succ _) rfl
theorem dL_law_470 : decode cL_law 470 = .ok (.iconst 1, 1) := dz1 (k := 22) (m := 1) dzd0_cL_law_448 di_10 (Nat.zero_lt_succ _) rfl
theorem dL_law_471 : decode cL_law 471 = .ok (.iadd, 1) := dz1 (k := 23) (m := 1) dzd0_cL_law_448 di_24 (Nat.zero_lt_succ _) rfl
theorem dL_law_472 : decode cL_law 472 = .ok (.iaload, 1) := dz1 (k := 24) (m := 1) dzd0_cL_law_448 di_30 (Nat.zero_lt_succ _) rfl
theorem dL_law_473 : decode cL_law 473 = .ok (.aload_n 0, 1) := dz1 (k := 25) (m := 1) dzd0_cL_law_448 di_0 (Nat.zero_lt_succ _) rfl
theorem dL_law_474 : decode cL_law 474 = .ok (.iload_n 3, 1) := dz1 (k := 26) (m := 1) dzd0_cL_law_448 di_3 (Nat.zero_lt_succ _) rfl
theorem dL_law_475 : decode cL_law 475 = .ok (.iconst 2, 1) := dz1 (k := 27) (m := 1) dzd0_cL_law_448 di_6 (Nat.zero_lt_succ _) rfl
theorem dL_law_476 : decode cL_law 476 = .ok (.iadd, 1) := dz1 (k := 28) (m := 1) dzd0_cL_law_448 di_24 (Nat.zero_lt_succ _) rfl
theorem dL_law_477 : decode cL_law 477 = .ok (.iaload, 1) := dz1 (k := 29) (m := 1) dzd0_cL_law_448 di_30 (Nat.zero_lt_succ _) rfl
theorem dL_law_478 : decode cL_law 478 = .ok (.aload_n 0, 1) := dz1 (k := 30) (m := 1) dzd0_cL_law_448 di_0 (Nat.zero_lt_succ _) rfl
theorem dL_law_479 : decode cL_law 479 = .ok (.iload_n 3, 1) := dz1 (k := 31) (m := 1) dzd0_cL_law_448 di_3 (Nat.zero_lt_succ _) rfl
set_option maxRecDepth 100000 in
theorem dzd0_cL_law_480 : DzLies cL_law (.mk ⟨[0x06, 0x60, 0x2e, 0xb6, 0x00, 0x30, 0x57, 0xa7, 0x03, 0x0d, 0x2b, 0x2a, 0x1d, 0x04, 0x60, 0x2e, 0xb6, 0x00, 0x31, 0x57, 0x2c, 0x2a, 0x1d, 0x04, 0x60, 0x2e, 0xb6, 0x00, 0x34, 0x57, 0xa7, 0x02, 0xf6]⟩) 480 := dz_lies (m := 33) (Nat.zero_lt_succ _) rfl
theorem dL_law_480 : decode cL_law 480 = .ok (.iconst 3, 1) := dz1 (k := 0) (m := 1) dzd0_cL_law_480 di_4 (Nat.zero_lt_succ _) rfl
theorem dL_law_481 : decode cL_law 481 = .ok (.iadd, 1) := dz1 (k := 1) (m := 1) dzd0_cL_law_480 di_24 (Nat.zero_lt_succ _) rfl
theorem dL_law_482 : decode cL_law 482 = .ok (.iaload, 1) := dz1 (k := 2) (m := 1) dzd0_cL_law_480 di_30 (Nat.zero_lt_succ _) rfl
theorem dL_law_483 : decode cL_law 483 = .ok (.invokevirtual 48, 3) := dz1 (k := 3) (m := 3) dzd0_cL_law_480 di_743 (Nat.zero_lt_succ _) rfl
theorem dL_law_486 : decode cL_law 486 = .ok (.pop, 1) := dz1 (k := 6) (m := 1) dzd0_cL_law_480 di_331 (Nat.zero_lt_succ _) rfl
theorem dL_law_487 : decode cL_law 487 = .ok (.goto 781, 3) := dz1 (k := 7) (m := 3) dzd0_cL_law_480 di_744 (Nat.zero_lt_succ _) rfl
theorem dL_law_490 : decode cL_law 490 = .ok (.aload_n 1, 1) := dz1 (k := 10) (m := 1) dzd0_cL_law_480 di_26 (Nat.zero_lt_succ _) rfl
theorem dL_law_491 : decode cL_law 491 = .ok (.aload_n 0, 1) := dz1 (k := 11) (m := 1) dzd0_cL_law_480 di_0 (Nat.zero_lt_succ _) rfl
theorem dL_law_492 : decode cL_law 492 = .ok (.iload_n 3, 1) := dz1 (k := 12) (m := 1) dzd0_cL_law_480 di_3 (Nat.zero_lt_succ _) rfl
theorem dL_law_493 : decode cL_law 493 = .ok (.iconst 1, 1) := dz1 (k := 13) (m := 1) dzd0_cL_law_480 di_10 (Nat.zero_lt_succ _) rfl
theorem dL_law_494 : decode cL_law 494 = .ok (.iadd, 1) := dz1 (k := 14) (m := 1) dzd0_cL_law_480 di_24 (Nat.zero_lt_succ _) rfl
theorem dL_law_495 : decode cL_law 495 = .ok (.iaload, 1) := dz1 (k := 15) (m := 1) dzd0_cL_law_480 di_30 (Nat.zero_lt_succ _) rfl
theorem dL_law_496 : decode cL_law 496 = .ok (.invokevirtual 49, 3) := dz1 (k := 16) (m := 3) dzd0_cL_law_480 di_745 (Nat.zero_lt_succ _) rfl
theorem dL_law_499 : decode cL_law 499 = .ok (.pop, 1) := dz1 (k := 19) (m := 1) dzd0_cL_law_480 di_331 (Nat.zero_lt_succ _) rfl
theorem dL_law_500 : decode cL_law 500 = .ok (.aload_n 2, 1) := dz1 (k := 20) (m := 1) dzd0_cL_law_480 di_493 (Nat.zero_lt_succ _) rfl
theorem dL_law_501 : decode cL_law 501 = .ok (.aload_n 0, 1) := dz1 (k := 21) (m := 1) dzd0_cL_law_480 di_0 (Nat.zero_lt_succ _) rfl
theorem dL_law_502 : decode cL_law 502 = .ok (.iload_n 3, 1) := dz1 (k := 22) (m := 1) dzd0_cL_law_480 di_3 (Nat.zero_lt_succ _) rfl
theorem dL_law_503 : decode cL_law 503 = .ok (.iconst 1, 1) := dz1 (k := 23) (m := 1) dzd0_cL_law_480 di_10 (Nat.zero_lt_succ _) rfl
theorem dL_law_504 : decode cL_law 504 = .ok (.iadd, 1) := dz1 (k := 24) (m := 1) dzd0_cL_law_480 di_24 (Nat.zero_lt_succ _) rfl
theorem dL_law_505 : decode cL_law 505 = .ok (.iaload, 1) := dz1 (k := 25) (m := 1) dzd0_cL_law_480 di_30 (Nat.zero_lt_succ _) rfl
theorem dL_law_506 : decode cL_law 506 = .ok (.invokevirtual 52, 3) := dz1 (k := 26) (m := 3) dzd0_cL_law_480 di_746 (Nat.zero_lt_succ _) rfl
theorem dL_law_509 : decode cL_law 509 = .ok (.pop, 1) := dz1 (k := 29) (m := 1) dzd0_cL_law_480 di_331 (Nat.zero_lt_succ _) rfl
theorem dL_law_510 : decode cL_law 510 = .ok (.goto 758, 3) := dz1 (k := 30) (m := 3) dzd0_cL_law_480 di_747 (Nat.zero_lt_succ _) rfl
set_option maxRecDepth 100000 in
theorem dzd0_cL_law_512 : DzLies cL_law (.mk ⟨[0xf6, 0x2b, 0x2a, 0x1d, 0x04, 0x60, 0x2e, 0xb6, 0x00, 0x35, 0x57, 0x2c, 0x2a, 0x1d, 0x04, 0x60, 0x2e, 0xb6, 0x00, 0x38, 0x57, 0xa7, 0x02, 0xdf, 0x2b, 0x2a, 0x1d, 0x04, 0x60, 0x2e, 0x2a, 0x1d]⟩) 512 := dz_lies (m := 32) (Nat.zero_lt_succ _) rfl
theorem dL_law_513 : decode cL_law 513 = .ok (.aload_n 1, 1) := dz1 (k := 1) (m := 1) dzd0_cL_law_512 di_26 (Nat.zero_lt_succ _) rfl
theorem dL_law_514 : decode cL_law 514 = .ok (.aload_n 0, 1) := dz1 (k := 2) (m := 1) dzd0_cL_law_512 di_0 (Nat.zero_lt_succ _) rfl
theorem dL_law_515 : decode cL_law 515 = .ok (.iload_n 3, 1) := dz1 (k := 3) (m := 1) dzd0_cL_law_512 di_3 (Nat.zero_lt_succ _) rfl
theorem dL_law_516 : decode cL_law 516 = .ok (.iconst 1, 1) := dz1 (k := 4) (m := 1) dzd0_cL_law_512 di_10 (Nat.zero_lt_succ _) rfl
theorem dL_law_517 : decode cL_law 517 = .ok (.iadd, 1) := dz1 (k := 5) (m := 1) dzd0_cL_law_512 di_24 (Nat.zero_lt_succ _) rfl
theorem dL_law_518 : decode cL_law 518 = .ok (.iaload, 1) := dz1 (k := 6) (m := 1) dzd0_cL_law_512 di_30 (Nat.zero_lt_succ _) rfl
theorem dL_law_519 : decode cL_law 519 = .ok (.invokevirtual 53, 3) := dz1 (k := 7) (m := 3) dzd0_cL_law_512 di_59 (Nat.zero_lt_succ _) rfl
theorem dL_law_522 : decode cL_law 522 = .ok (.pop, 1) := dz1 (k := 10) (m := 1) dzd0_cL_law_512 di_331 (Nat.zero_lt_succ _) rfl
theorem dL_law_523 : decode cL_law 523 = .ok (.aload_n 2, 1) := dz1 (k := 11) (m := 1) dzd0_cL_law_512 di_493 (Nat.zero_lt_succ _) rfl
theorem dL_law_524 : decode cL_law 524 = .ok (.aload_n 0, 1) := dz1 (k := 12) (m := 1) dzd0_cL_law_512 di_0 (Nat.zero_lt_succ _) rfl
theorem dL_law_525 : decode cL_law 525 = .ok (.iload_n 3, 1) := dz1 (k := 13) (m := 1) dzd0_cL_law_512 di_3 (Nat.zero_lt_succ _) rfl
theorem dL_law_526 : decode cL_law 526 = .ok (.iconst 1, 1) := dz1 (k := 14) (m := 1) dzd0_cL_law_512 di_10 (Nat.zero_lt_succ _) rfl
theorem dL_law_527 : decode cL_law 527 = .ok (.iadd, 1) := dz1 (k := 15) (m := 1) dzd0_cL_law_512 di_24 (Nat.zero_lt_succ _) rfl
theorem dL_law_528 : decode cL_law 528 = .ok (.iaload, 1) := dz1 (k := 16) (m := 1) dzd0_cL_law_512 di_30 (Nat.zero_lt_succ _) rfl
theorem dL_law_529 : decode cL_law 529 = .ok (.invokevirtual 56, 3) := dz1 (k := 17) (m := 3) dzd0_cL_law_512 di_60 (Nat.zero_lt_succ _) rfl
theorem dL_law_532 : decode cL_law 532 = .ok (.pop, 1) := dz1 (k := 20) (m := 1) dzd0_cL_law_512 di_331 (Nat.zero_lt_succ _) rfl
theorem dL_law_533 : decode cL_law 533 = .ok (.goto 735, 3) := dz1 (k := 21) (m := 3) dzd0_cL_law_512 di_748 (Nat.zero_lt_succ _) rfl
theorem dL_law_536 : decode cL_law 536 = .ok (.aload_n 1, 1) := dz1 (k := 24) (m := 1) dzd0_cL_law_512 di_26 (Nat.zero_lt_succ _) rfl
theorem dL_law_537 : decode cL_law 537 = .ok (.aload_n 0, 1) := dz1 (k := 25) (m := 1) dzd0_cL_law_512 di_0 (Nat.zero_lt_succ _) rfl
theorem dL_law_538 : decode cL_law 538 = .ok (.iload_n 3, 1) := dz1 (k := 26) (m := 1) dzd0_cL_law_512 di_3 (Nat.zero_lt_succ _) rfl
theorem dL_law_539 : decode cL_law 539 = .ok (.iconst 1, 1) := dz1 (k := 27) (m := 1) dzd0_cL_law_512 di_10 (Nat.zero_lt_succ _) rfl
theorem dL_law_540 : decode cL_law 540 = .ok (.iadd, 1) := dz1 (k := 28) (m := 1) dzd0_cL_law_512 di_24 (Nat.zero_lt_succ _) rfl
theorem dL_law_541 : decode cL_law 541 = .ok (.iaload, 1) := dz1 (k := 29) (m := 1) dzd0_cL_law_512 di_30 (Nat.zero_lt_succ _) rfl
theorem dL_law_542 : decode cL_law 542 = .ok (.aload_n 0, 1) := dz1 (k := 30) (m := 1) dzd0_cL_law_512 di_0 (Nat.zero_lt_succ _) rfl
theorem dL_law_543 : decode cL_law 543 = .ok (.iload_n 3, 1) := dz1 (k := 31) (m := 1) dzd0_cL_law_512 di_3 (Nat.zero_lt_succ _) rfl
set_option maxRecDepth 100000 in
theorem dzd0_cL_law_544 : DzLies cL_law (.mk ⟨[0x05, 0x60, 0x2e, 0xb6, 0x00, 0x39, 0x57, 0x2c, 0x2a, 0x1d, 0x04, 0x60, 0x2e, 0x2a, 0x1d, 0x05, 0x60, 0x2e, 0xb6, 0x00, 0x3c, 0x57, 0xa7, 0x02, 0xbe, 0x2b, 0x2a, 0x1d, 0x04, 0x60, 0x2e, 0x2a]⟩) 544 := dz_lies (m := 32) (Nat.zero_lt_succ _) rfl
theorem dL_law_544 : decode cL_law 544 = .ok (.iconst 2, 1) := dz1 (k := 0) (m := 1) dzd0_cL_law_544 di_6 (Nat.zero_lt_succ _) rfl
theorem dL_law_545 : decode cL_law 545 = .ok (.iadd, 1) := dz1 (k := 1) (m := 1) dzd0_cL_law_544 di_24 (Nat.zero_lt_succ _) rfl
theorem dL_law_546 : decode cL_law 546 = .ok (.iaload, 1) := dz1 (k := 2) (m := 1) dzd0_cL_law_544 di_30 (Nat.zero_lt_succ _) rfl
theorem dL_law_547 : decode cL_law 547 = .ok (.invokevirtual 57, 3) := dz1 (k := 3) (m := 3) dzd0_cL_law_544 di_749 (Nat.zero_lt_succ _) rfl
theorem dL_law_550 : decode cL_law 550 = .ok (.pop, 1) := dz1 (k := 6) (m := 1) dzd0_cL_law_544 di_331 (Nat.zero_lt_succ _) rfl
theorem dL_law_551 : decode cL_law 551 = .ok (.aload_n 2, 1) := dz1 (k := 7) (m := 1) dzd0_cL_law_544 di_493 (Nat.zero_lt_succ _) rfl
theorem dL_law_552 : decode cL_law 552 = .ok (.aload_n 0, 1) := dz1 (k := 8) (m := 1) dzd0_cL_law_544 di_0 (Nat.zero_lt_succ _) rfl
theorem dL_law_553 : decode cL_law 553 = .ok (.iload_n 3, 1) := dz1 (k := 9) (m := 1) dzd0_cL_law_544 di_3 (Nat.zero_lt_succ _) rfl
theorem dL_law_554 : decode cL_law 554 = .ok (.iconst 1, 1) := dz1 (k := 10) (m := 1) dzd0_cL_law_544 di_10 (Nat.zero_lt_succ _) rfl
theorem dL_law_555 : decode cL_law 555 = .ok (.iadd, 1) := dz1 (k := 11) (m := 1) dzd0_cL_law_544 di_24 (Nat.zero_lt_succ _) rfl
theorem dL_law_556 : decode cL_law 556 = .ok (.iaload, 1) := dz1 (k := 12) (m := 1) dzd0_cL_law_544 di_30 (Nat.zero_lt_succ _) rfl
theorem dL_law_557 : decode cL_law 557 = .ok (.aload_n 0, 1) := dz1 (k := 13) (m := 1) dzd0_cL_law_544 di_0 (Nat.zero_lt_succ _) rfl
theorem dL_law_558 : decode cL_law 558 = .ok (.iload_n 3, 1) := dz1 (k := 14) (m := 1) dzd0_cL_law_544 di_3 (Nat.zero_lt_succ _) rfl
theorem dL_law_559 : decode cL_law 559 = .ok (.iconst 2, 1) := dz1 (k := 15) (m := 1) dzd0_cL_law_544 di_6 (Nat.zero_lt_succ _) rfl
theorem dL_law_560 : decode cL_law 560 = .ok (.iadd, 1) := dz1 (k := 16) (m := 1) dzd0_cL_law_544 di_24 (Nat.zero_lt_succ _) rfl
theorem dL_law_561 : decode cL_law 561 = .ok (.iaload, 1) := dz1 (k := 17) (m := 1) dzd0_cL_law_544 di_30 (Nat.zero_lt_succ _) rfl
theorem dL_law_562 : decode cL_law 562 = .ok (.invokevirtual 60, 3) := dz1 (k := 18) (m := 3) dzd0_cL_law_544 di_750 (Nat.zero_lt_succ _) rfl
theorem dL_law_565 : decode cL_law 565 = .ok (.pop, 1) := dz1 (k := 21) (m := 1) dzd0_cL_law_544 di_331 (Nat.zero_lt_succ _) rfl
theorem dL_law_566 : decode cL_law 566 = .ok (.goto 702, 3) := dz1 (k := 22) (m := 3) dzd0_cL_law_544 di_751 (Nat.zero_lt_succ _) rfl
theorem dL_law_569 : decode cL_law 569 = .ok (.aload_n 1, 1) := dz1 (k := 25) (m := 1) dzd0_cL_law_544 di_26 (Nat.zero_lt_succ _) rfl
theorem dL_law_570 : decode cL_law 570 = .ok (.aload_n 0, 1) := dz1 (k := 26) (m := 1) dzd0_cL_law_544 di_0 (Nat.zero_lt_succ _) rfl
theorem dL_law_571 : decode cL_law 571 = .ok (.iload_n 3, 1) := dz1 (k := 27) (m := 1) dzd0_cL_law_544 di_3 (Nat.zero_lt_succ _) rfl
theorem dL_law_572 : decode cL_law 572 = .ok (.iconst 1, 1) := dz1 (k := 28) (m := 1) dzd0_cL_law_544 di_10 (Nat.zero_lt_succ _) rfl
theorem dL_law_573 : decode cL_law 573 = .ok (.iadd, 1) := dz1 (k := 29) (m := 1) dzd0_cL_law_544 di_24 (Nat.zero_lt_succ _) rfl
theorem dL_law_574 : decode cL_law 574 = .ok (.iaload, 1) := dz1 (k := 30) (m := 1) dzd0_cL_law_544 di_30 (Nat.zero_lt_succ _) rfl
theorem dL_law_575 : decode cL_law 575 = .ok (.aload_n 0, 1) := dz1 (k := 31) (m := 1) dzd0_cL_law_544 di_0 (Nat.zero_lt_succ _) rfl
set_option maxRecDepth 100000 in
theorem dzd0_cL_law_576 : DzLies cL_law (.mk ⟨[0x1d, 0x05, 0x60, 0x2e, 0xb6, 0x00, 0x3d, 0x57, 0x2c, 0x2a, 0x1d, 0x04, 0x60, 0x2e, 0x2a, 0x1d, 0x05, 0x60, 0x2e, 0xb6, 0x00, 0x40, 0x57, 0xa7, 0x02, 0x9d, 0x2b, 0x2a, 0x1d, 0x04, 0x60, 0x2e]⟩) 576 := dz_lies (m := 32) (Nat.zero_lt_succ _) rfl
theorem dL_law_576 : decode cL_law 576 = .ok (.iload_n 3, 1) := dz1 (k := 0) (m := 1) dzd0_cL_law_576 di_3 (Nat.zero_lt_succ _) rfl
theorem dL_law_577 : decode cL_law 577 = .ok (.iconst 2, 1) := dz1 (k := 1) (m := 1) dzd0_cL_law_576 di_6 (Nat.zero_lt_succ _) rfl
theorem dL_law_578 : decode cL_law 578 = .ok (.iadd, 1) := dz1 (k := 2) (m := 1) dzd0_cL_law_576 di_24 (Nat.zero_lt_succ _) rfl
theorem dL_law_579 : decode cL_law 579 = .ok (.iaload, 1) := dz1 (k := 3) (m := 1) dzd0_cL_law_576 di_30 (Nat.zero_lt_succ _) rfl
theorem dL_law_580 : decode cL_law 580 = .ok (.invokevirtual 61, 3) := dz1 (k := 4) (m := 3) dzd0_cL_law_576 di_752 (Nat.zero_lt_succ _) rfl
theorem dL_law_583 : decode cL_law 583 = .ok (.pop, 1) := dz1 (k := 7) (m := 1) dzd0_cL_law_576 di_331 (Nat.zero_lt_succ _) rfl
theorem dL_law_584 : decode cL_law 584 = .ok (.aload_n 2, 1) := dz1 (k := 8) (m := 1) dzd0_cL_law_576 di_493 (Nat.zero_lt_succ _) rfl
theorem dL_law_585 : decode cL_law 585 = .ok (.aload_n 0, 1) := dz1 (k := 9) (m := 1) dzd0_cL_law_576 di_0 (Nat.zero_lt_succ _) rfl
theorem dL_law_586 : decode cL_law 586 = .ok (.iload_n 3, 1) := dz1 (k := 10) (m := 1) dzd0_cL_law_576 di_3 (Nat.zero_lt_succ _) rfl
theorem dL_law_587 : decode cL_law 587 = .ok (.iconst 1, 1) := dz1 (k := 11) (m := 1) dzd0_cL_law_576 di_10 (Nat.zero_lt_succ _) rfl
theorem dL_law_588 : decode cL_law 588 = .ok (.iadd, 1) := dz1 (k := 12) (m := 1) dzd0_cL_law_576 di_24 (Nat.zero_lt_succ _) rfl
theorem dL_law_589 : decode cL_law 589 = .ok (.iaload, 1) := dz1 (k := 13) (m := 1) dzd0_cL_law_576 di_30 (Nat.zero_lt_succ _) rfl
theorem dL_law_590 : decode cL_law 590 = .ok (.aload_n 0, 1) := dz1 (k := 14) (m := 1) dzd0_cL_law_576 di_0 (Nat.zero_lt_succ _) rfl
theorem dL_law_591 : decode cL_law 591 = .ok (.iload_n 3, 1) := dz1 (k := 15) (m := 1) dzd0_cL_law_576 di_3 (Nat.zero_lt_succ _) rfl
theorem dL_law_592 : decode cL_law 592 = .ok (.iconst 2, 1) := dz1 (k := 16) (m := 1) dzd0_cL_law_576 di_6 (Nat.zero_lt_succ _) rfl
theorem dL_law_593 : decode cL_law 593 = .ok (.iadd, 1) := dz1 (k := 17) (m := 1) dzd0_cL_law_576 di_24 (Nat.zero_lt_succ _) rfl
theorem dL_law_594 : decode cL_law 594 = .ok (.iaload, 1) := dz1 (k := 18) (m := 1) dzd0_cL_law_576 di_30 (Nat.zero_lt_succ _) rfl
theorem dL_law_595 : decode cL_law 595 = .ok (.invokevirtual 64, 3) := dz1 (k := 19) (m := 3) dzd0_cL_law_576 di_753 (Nat.zero_lt_succ _) rfl
theorem dL_law_598 : decode cL_law 598 = .ok (.pop, 1) := dz1 (k := 22) (m := 1) dzd0_cL_law_576 di_331 (Nat.zero_lt_succ _) rfl
theorem dL_law_599 : decode cL_law 599 = .ok (.goto 669, 3) := dz1 (k := 23) (m := 3) dzd0_cL_law_576 di_754 (Nat.zero_lt_succ _) rfl
theorem dL_law_602 : decode cL_law 602 = .ok (.aload_n 1, 1) := dz1 (k := 26) (m := 1) dzd0_cL_law_576 di_26 (Nat.zero_lt_succ _) rfl
theorem dL_law_603 : decode cL_law 603 = .ok (.aload_n 0, 1) := dz1 (k := 27) (m := 1) dzd0_cL_law_576 di_0 (Nat.zero_lt_succ _) rfl
theorem dL_law_604 : decode cL_law 604 = .ok (.iload_n 3, 1) := dz1 (k := 28) (m := 1) dzd0_cL_law_576 di_3 (Nat.zero_lt_succ _) rfl
theorem dL_law_605 : decode cL_law 605 = .ok (.iconst 1, 1) := dz1 (k := 29) (m := 1) dzd0_cL_law_576 di_10 (Nat.zero_lt_succ _) rfl
theorem dL_law_606 : decode cL_law 606 = .ok (.iadd, 1) := dz1 (k := 30) (m := 1) dzd0_cL_law_576 di_24 (Nat.zero_lt_succ _) rfl
theorem dL_law_607 : decode cL_law 607 = .ok (.iaload, 1) := dz1 (k := 31) (m := 1) dzd0_cL_law_576 di_30 (Nat.zero_lt_succ _) rfl
set_option maxRecDepth 100000 in
theorem dzd0_cL_law_608 : DzLies cL_law (.mk ⟨[0x2a, 0x1d, 0x05, 0x60, 0x2e, 0xb6, 0x00, 0x41, 0x57, 0x2c, 0x2a, 0x1d, 0x04, 0x60, 0x2e, 0x2a, 0x1d, 0x05, 0x60, 0x2e, 0xb6, 0x00, 0x44, 0x57, 0xa7, 0x02, 0x7c, 0x2b, 0x2a, 0x1d, 0x04, 0x60]⟩) 608 := dz_lies (m := 32) (Nat.zero_lt_succ _) rfl
theorem dL_law_608 : decode cL_law 608 = .ok (.aload_n 0, 1) := dz1 (k := 0) (m := 1) dzd0_cL_law_608 di_0 (Nat.zero_lt_succ _) rfl
theorem dL_law_609 : decode cL_law 609 = .ok (.iload_n 3, 1) := dz1 (k := 1) (m := 1) dzd0_cL_law_608 di_3 (Nat.zero_lt_succ _) rfl
theorem dL_law_610 : decode cL_law 610 = .ok (.iconst 2, 1) := dz1 (k := 2) (m := 1) dzd0_cL_law_608 di_6 (Nat.zero_lt_succ _) rfl
theorem dL_law_611 : decode cL_law 611 = .ok (.iadd, 1) := dz1 (k := 3) (m := 1) dzd0_cL_law_608 di_24 (Nat.zero_lt_succ _) rfl
theorem dL_law_612 : decode cL_law 612 = .ok (.iaload, 1) := dz1 (k := 4) (m := 1) dzd0_cL_law_608 di_30 (Nat.zero_lt_succ _) rfl
theorem dL_law_613 : decode cL_law 613 = .ok (.invokevirtual 65, 3) := dz1 (k := 5) (m := 3) dzd0_cL_law_608 di_71 (Nat.zero_lt_succ _) rfl
theorem dL_law_616 : decode cL_law 616 = .ok (.pop, 1) := dz1 (k := 8) (m := 1) dzd0_cL_law_608 di_331 (Nat.zero_lt_succ _) rfl
theorem dL_law_617 : decode cL_law 617 = .ok (.aload_n 2, 1) := dz1 (k := 9) (m := 1) dzd0_cL_law_608 di_493 (Nat.zero_lt_succ _) rfl
theorem dL_law_618 : decode cL_law 618 = .ok (.aload_n 0, 1) := dz1 (k := 10) (m := 1) dzd0_cL_law_608 di_0 (Nat.zero_lt_succ _) rfl
theorem dL_law_619 : decode cL_law 619 = .ok (.iload_n 3, 1) := dz1 (k := 11) (m := 1) dzd0_cL_law_608 di_3 (Nat.zero_lt_succ _) rfl
theorem dL_law_620 : decode cL_law 620 = .ok (.iconst 1, 1) := dz1 (k := 12) (m := 1) dzd0_cL_law_608 di_10 (Nat.zero_lt_succ _) rfl
theorem dL_law_621 : decode cL_law 621 = .ok (.iadd, 1) := dz1 (k := 13) (m := 1) dzd0_cL_law_608 di_24 (Nat.zero_lt_succ _) rfl
theorem dL_law_622 : decode cL_law 622 = .ok (.iaload, 1) := dz1 (k := 14) (m := 1) dzd0_cL_law_608 di_30 (Nat.zero_lt_succ _) rfl
theorem dL_law_623 : decode cL_law 623 = .ok (.aload_n 0, 1) := dz1 (k := 15) (m := 1) dzd0_cL_law_608 di_0 (Nat.zero_lt_succ _) rfl
theorem dL_law_624 : decode cL_law 624 = .ok (.iload_n 3, 1) := dz1 (k := 16) (m := 1) dzd0_cL_law_608 di_3 (Nat.zero_lt_succ _) rfl
theorem dL_law_625 : decode cL_law 625 = .ok (.iconst 2, 1) := dz1 (k := 17) (m := 1) dzd0_cL_law_608 di_6 (Nat.zero_lt_succ _) rfl
theorem dL_law_626 : decode cL_law 626 = .ok (.iadd, 1) := dz1 (k := 18) (m := 1) dzd0_cL_law_608 di_24 (Nat.zero_lt_succ _) rfl
theorem dL_law_627 : decode cL_law 627 = .ok (.iaload, 1) := dz1 (k := 19) (m := 1) dzd0_cL_law_608 di_30 (Nat.zero_lt_succ _) rfl
theorem dL_law_628 : decode cL_law 628 = .ok (.invokevirtual 68, 3) := dz1 (k := 20) (m := 3) dzd0_cL_law_608 di_755 (Nat.zero_lt_succ _) rfl
theorem dL_law_631 : decode cL_law 631 = .ok (.pop, 1) := dz1 (k := 23) (m := 1) dzd0_cL_law_608 di_331 (Nat.zero_lt_succ _) rfl
theorem dL_law_632 : decode cL_law 632 = .ok (.goto 636, 3) := dz1 (k := 24) (m := 3) dzd0_cL_law_608 di_756 (Nat.zero_lt_succ _) rfl
theorem dL_law_635 : decode cL_law 635 = .ok (.aload_n 1, 1) := dz1 (k := 27) (m := 1) dzd0_cL_law_608 di_26 (Nat.zero_lt_succ _) rfl
theorem dL_law_636 : decode cL_law 636 = .ok (.aload_n 0, 1) := dz1 (k := 28) (m := 1) dzd0_cL_law_608 di_0 (Nat.zero_lt_succ _) rfl
theorem dL_law_637 : decode cL_law 637 = .ok (.iload_n 3, 1) := dz1 (k := 29) (m := 1) dzd0_cL_law_608 di_3 (Nat.zero_lt_succ _) rfl
theorem dL_law_638 : decode cL_law 638 = .ok (.iconst 1, 1) := dz1 (k := 30) (m := 1) dzd0_cL_law_608 di_10 (Nat.zero_lt_succ _) rfl
theorem dL_law_639 : decode cL_law 639 = .ok (.iadd, 1) := dz1 (k := 31) (m := 1) dzd0_cL_law_608 di_24 (Nat.zero_lt_succ _) rfl
set_option maxRecDepth 100000 in
theorem dzd0_cL_law_640 : DzLies cL_law (.mk ⟨[0x2e, 0xb6, 0x00, 0x45, 0x57, 0x2c, 0x2a, 0x1d, 0x04, 0x60, 0x2e, 0xb6, 0x00, 0x48, 0x57, 0xa7, 0x02, 0x65, 0x2b, 0x2a, 0x1d, 0x04, 0x60, 0x2e, 0x2a, 0x1d, 0x05, 0x60, 0x2e, 0xb6, 0x00, 0x49]⟩) 640 := dz_lies (m := 32) (Nat.zero_lt_succ _) rfl
theorem dL_law_640 : decode cL_law 640 = .ok (.iaload, 1) := dz1 (k := 0) (m := 1) dzd0_cL_law_640 di_30 (Nat.zero_lt_succ _) rfl
theorem dL_law_641 : decode cL_law 641 = .ok (.invokevirtual 69, 3) := dz1 (k := 1) (m := 3) dzd0_cL_law_640 di_757 (Nat.zero_lt_succ _) rfl
theorem dL_law_644 : decode cL_law 644 = .ok (.pop, 1) := dz1 (k := 4) (m := 1) dzd0_cL_law_640 di_331 (Nat.zero_lt_succ _) rfl
theorem dL_law_645 : decode cL_law 645 = .ok (.aload_n 2, 1) := dz1 (k := 5) (m := 1) dzd0_cL_law_640 di_493 (Nat.zero_lt_succ _) rfl
theorem dL_law_646 : decode cL_law 646 = .ok (.aload_n 0, 1) := dz1 (k := 6) (m := 1) dzd0_cL_law_640 di_0 (Nat.zero_lt_succ _) rfl
theorem dL_law_647 : decode cL_law 647 = .ok (.iload_n 3, 1) := dz1 (k := 7) (m := 1) dzd0_cL_law_640 di_3 (Nat.zero_lt_succ _) rfl
theorem dL_law_648 : decode cL_law 648 = .ok (.iconst 1, 1) := dz1 (k := 8) (m := 1) dzd0_cL_law_640 di_10 (Nat.zero_lt_succ _) rfl
theorem dL_law_649 : decode cL_law 649 = .ok (.iadd, 1) := dz1 (k := 9) (m := 1) dzd0_cL_law_640 di_24 (Nat.zero_lt_succ _) rfl
theorem dL_law_650 : decode cL_law 650 = .ok (.iaload, 1) := dz1 (k := 10) (m := 1) dzd0_cL_law_640 di_30 (Nat.zero_lt_succ _) rfl
theorem dL_law_651 : decode cL_law 651 = .ok (.invokevirtual 72, 3) := dz1 (k := 11) (m := 3) dzd0_cL_law_640 di_758 (Nat.zero_lt_succ _) rfl
theorem dL_law_654 : decode cL_law 654 = .ok (.pop, 1) := dz1 (k := 14) (m := 1) dzd0_cL_law_640 di_331 (Nat.zero_lt_succ _) rfl
theorem dL_law_655 : decode cL_law 655 = .ok (.goto 613, 3) := dz1 (k := 15) (m := 3) dzd0_cL_law_640 di_759 (Nat.zero_lt_succ _) rfl
theorem dL_law_658 : decode cL_law 658 = .ok (.aload_n 1, 1) := dz1 (k := 18) (m := 1) dzd0_cL_law_640 di_26 (Nat.zero_lt_succ _) rfl
theorem dL_law_659 : decode cL_law 659 = .ok (.aload_n 0, 1) := dz1 (k := 19) (m := 1) dzd0_cL_law_640 di_0 (Nat.zero_lt_succ _) rfl
theorem dL_law_660 : decode cL_law 660 = .ok (.iload_n 3, 1) := dz1 (k := 20) (m := 1) dzd0_cL_law_640 di_3 (Nat.zero_lt_succ _) rfl
theorem dL_law_661 : decode cL_law 661 = .ok (.iconst 1, 1) := dz1 (k := 21) (m := 1) dzd0_cL_law_640 di_10 (Nat.zero_lt_succ _) rfl
theorem dL_law_662 : decode cL_law 662 = .ok (.iadd, 1) := dz1 (k := 22) (m := 1) dzd0_cL_law_640 di_24 (Nat.zero_lt_succ _) rfl
theorem dL_law_663 : decode cL_law 663 = .ok (.iaload, 1) := dz1 (k := 23) (m := 1) dzd0_cL_law_640 di_30 (Nat.zero_lt_succ _) rfl
theorem dL_law_664 : decode cL_law 664 = .ok (.aload_n 0, 1) := dz1 (k := 24) (m := 1) dzd0_cL_law_640 di_0 (Nat.zero_lt_succ _) rfl
theorem dL_law_665 : decode cL_law 665 = .ok (.iload_n 3, 1) := dz1 (k := 25) (m := 1) dzd0_cL_law_640 di_3 (Nat.zero_lt_succ _) rfl
theorem dL_law_666 : decode cL_law 666 = .ok (.iconst 2, 1) := dz1 (k := 26) (m := 1) dzd0_cL_law_640 di_6 (Nat.zero_lt_succ _) rfl
theorem dL_law_667 : decode cL_law 667 = .ok (.iadd, 1) := dz1 (k := 27) (m := 1) dzd0_cL_law_640 di_24 (Nat.zero_lt_succ _) rfl
theorem dL_law_668 : decode cL_law 668 = .ok (.iaload, 1) := dz1 (k := 28) (m := 1) dzd0_cL_law_640 di_30 (Nat.zero_lt_succ _) rfl
theorem dL_law_669 : decode cL_law 669 = .ok (.invokevirtual 73, 3) := dz1 (k := 29) (m := 3) dzd0_cL_law_640 di_760 (Nat.zero_lt_succ _) rfl
set_option maxRecDepth 100000 in
theorem dzd0_cL_law_672 : DzLies cL_law (.mk ⟨[0x57, 0x2c, 0x2a, 0x1d, 0x04, 0x60, 0x2e, 0x2a, 0x1d, 0x05, 0x60, 0x2e, 0xb6, 0x00, 0x4c, 0x57, 0xa7, 0x02, 0x44, 0x2b, 0x2a, 0x1d, 0x04, 0x60, 0x2e, 0xb6, 0x00, 0x4d, 0x57, 0x2c, 0x2a, 0x1d]⟩) 672 := dz_lies (m := 32) (Nat.zero_lt_succ _) rfl
theorem dL_law_672 : decode cL_law 672 = .ok (.pop, 1) := dz1 (k := 0) (m := 1) dzd0_cL_law_672 di_331 (Nat.zero_lt_succ _) rfl
theorem dL_law_673 : decode cL_law 673 = .ok (.aload_n 2, 1) := dz1 (k := 1) (m := 1) dzd0_cL_law_672 di_493 (Nat.zero_lt_succ _) rfl
theorem dL_law_674 : decode cL_law 674 = .ok (.aload_n 0, 1) := dz1 (k := 2) (m := 1) dzd0_cL_law_672 di_0 (Nat.zero_lt_succ _) rfl
theorem dL_law_675 : decode cL_law 675 = .ok (.iload_n 3, 1) := dz1 (k := 3) (m := 1) dzd0_cL_law_672 di_3 (Nat.zero_lt_succ _) rfl
theorem dL_law_676 : decode cL_law 676 = .ok (.iconst 1, 1) := dz1 (k := 4) (m := 1) dzd0_cL_law_672 di_10 (Nat.zero_lt_succ _) rfl
theorem dL_law_677 : decode cL_law 677 = .ok (.iadd, 1) := dz1 (k := 5) (m := 1) dzd0_cL_law_672 di_24 (Nat.zero_lt_succ _) rfl
theorem dL_law_678 : decode cL_law 678 = .ok (.iaload, 1) := dz1 (k := 6) (m := 1) dzd0_cL_law_672 di_30 (Nat.zero_lt_succ _) rfl
theorem dL_law_679 : decode cL_law 679 = .ok (.aload_n 0, 1) := dz1 (k := 7) (m := 1) dzd0_cL_law_672 di_0 (Nat.zero_lt_succ _) rfl
theorem dL_law_680 : decode cL_law 680 = .ok (.iload_n 3, 1) := dz1 (k := 8) (m := 1) dzd0_cL_law_672 di_3 (Nat.zero_lt_succ _) rfl
theorem dL_law_681 : decode cL_law 681 = .ok (.iconst 2, 1) := dz1 (k := 9) (m := 1) dzd0_cL_law_672 di_6 (Nat.zero_lt_succ _) rfl
theorem dL_law_682 : decode cL_law 682 = .ok (.iadd, 1) := dz1 (k := 10) (m := 1) dzd0_cL_law_672 di_24 (Nat.zero_lt_succ _) rfl
theorem dL_law_683 : decode cL_law 683 = .ok (.iaload, 1) := dz1 (k := 11) (m := 1) dzd0_cL_law_672 di_30 (Nat.zero_lt_succ _) rfl
theorem dL_law_684 : decode cL_law 684 = .ok (.invokevirtual 76, 3) := dz1 (k := 12) (m := 3) dzd0_cL_law_672 di_761 (Nat.zero_lt_succ _) rfl
theorem dL_law_687 : decode cL_law 687 = .ok (.pop, 1) := dz1 (k := 15) (m := 1) dzd0_cL_law_672 di_331 (Nat.zero_lt_succ _) rfl
theorem dL_law_688 : decode cL_law 688 = .ok (.goto 580, 3) := dz1 (k := 16) (m := 3) dzd0_cL_law_672 di_762 (Nat.zero_lt_succ _) rfl
theorem dL_law_691 : decode cL_law 691 = .ok (.aload_n 1, 1) := dz1 (k := 19) (m := 1) dzd0_cL_law_672 di_26 (Nat.zero_lt_succ _) rfl
theorem dL_law_692 : decode cL_law 692 = .ok (.aload_n 0, 1) := dz1 (k := 20) (m := 1) dzd0_cL_law_672 di_0 (Nat.zero_lt_succ _) rfl
theorem dL_law_693 : decode cL_law 693 = .ok (.iload_n 3, 1) := dz1 (k := 21) (m := 1) dzd0_cL_law_672 di_3 (Nat.zero_lt_succ _) rfl
theorem dL_law_694 : decode cL_law 694 = .ok (.iconst 1, 1) := dz1 (k := 22) (m := 1) dzd0_cL_law_672 di_10 (Nat.zero_lt_succ _) rfl
theorem dL_law_695 : decode cL_law 695 = .ok (.iadd, 1) := dz1 (k := 23) (m := 1) dzd0_cL_law_672 di_24 (Nat.zero_lt_succ _) rfl
theorem dL_law_696 : decode cL_law 696 = .ok (.iaload, 1) := dz1 (k := 24) (m := 1) dzd0_cL_law_672 di_30 (Nat.zero_lt_succ _) rfl
theorem dL_law_697 : decode cL_law 697 = .ok (.invokevirtual 77, 3) := dz1 (k := 25) (m := 3) dzd0_cL_law_672 di_763 (Nat.zero_lt_succ _) rfl
theorem dL_law_700 : decode cL_law 700 = .ok (.pop, 1) := dz1 (k := 28) (m := 1) dzd0_cL_law_672 di_331 (Nat.zero_lt_succ _) rfl
theorem dL_law_701 : decode cL_law 701 = .ok (.aload_n 2, 1) := dz1 (k := 29) (m := 1) dzd0_cL_law_672 di_493 (Nat.zero_lt_succ _) rfl
theorem dL_law_702 : decode cL_law 702 = .ok (.aload_n 0, 1) := dz1 (k := 30) (m := 1) dzd0_cL_law_672 di_0 (Nat.zero_lt_succ _) rfl
theorem dL_law_703 : decode cL_law 703 = .ok (.iload_n 3, 1) := dz1 (k := 31) (m := 1) dzd0_cL_law_672 di_3 (Nat.zero_lt_succ _) rfl
set_option maxRecDepth 100000 in
theorem dzd0_cL_law_704 : DzLies cL_law (.mk ⟨[0x04, 0x60, 0x2e, 0xb6, 0x00, 0x50, 0x57, 0xa7, 0x02, 0x2d, 0x2b, 0x2a, 0x1d, 0x04, 0x60, 0x2e, 0xb6, 0x00, 0x51, 0x57, 0x2c, 0x2a, 0x1d, 0x04, 0x60, 0x2e, 0xb6, 0x00, 0x54, 0x57, 0xa7, 0x02, 0x16]⟩) 704 := dz_lies (m := 33) (Nat.zero_lt_succ _) rfl
theorem dL_law_704 : decode cL_law 704 = .ok (.iconst 1, 1) := dz1 (k := 0) (m := 1) dzd0_cL_law_704 di_10 (Nat.zero_lt_succ _) rfl
theorem dL_law_705 : decode cL_law 705 = .ok (.iadd, 1) := dz1 (k := 1) (m := 1) dzd0_cL_law_704 di_24 (Nat.zero_lt_succ _) rfl
theorem dL_law_706 : decode cL_law 706 = .ok (.iaload, 1) := dz1 (k := 2) (m := 1) dzd0_cL_law_704 di_30 (Nat.zero_lt_succ _) rfl
theorem dL_law_707 : decode cL_law 707 = .ok (.invokevirtual 80, 3) := dz1 (k := 3) (m := 3) dzd0_cL_law_704 di_764 (Nat.zero_lt_succ _) rfl
theorem dL_law_710 : decode cL_law 710 = .ok (.pop, 1) := dz1 (k := 6) (m := 1) dzd0_cL_law_704 di_331 (Nat.zero_lt_succ _) rfl
theorem dL_law_711 : decode cL_law 711 = .ok (.goto 557, 3) := dz1 (k := 7) (m := 3) dzd0_cL_law_704 di_765 (Nat.zero_lt_succ _) rfl
theorem dL_law_714 : decode cL_law 714 = .ok (.aload_n 1, 1) := dz1 (k := 10) (m := 1) dzd0_cL_law_704 di_26 (Nat.zero_lt_succ _) rfl
theorem dL_law_715 : decode cL_law 715 = .ok (.aload_n 0, 1) := dz1 (k := 11) (m := 1) dzd0_cL_law_704 di_0 (Nat.zero_lt_succ _) rfl
theorem dL_law_716 : decode cL_law 716 = .ok (.iload_n 3, 1) := dz1 (k := 12) (m := 1) dzd0_cL_law_704 di_3 (Nat.zero_lt_succ _) rfl
theorem dL_law_717 : decode cL_law 717 = .ok (.iconst 1, 1) := dz1 (k := 13) (m := 1) dzd0_cL_law_704 di_10 (Nat.zero_lt_succ _) rfl
theorem dL_law_718 : decode cL_law 718 = .ok (.iadd, 1) := dz1 (k := 14) (m := 1) dzd0_cL_law_704 di_24 (Nat.zero_lt_succ _) rfl
theorem dL_law_719 : decode cL_law 719 = .ok (.iaload, 1) := dz1 (k := 15) (m := 1) dzd0_cL_law_704 di_30 (Nat.zero_lt_succ _) rfl
theorem dL_law_720 : decode cL_law 720 = .ok (.invokevirtual 81, 3) := dz1 (k := 16) (m := 3) dzd0_cL_law_704 di_766 (Nat.zero_lt_succ _) rfl
theorem dL_law_723 : decode cL_law 723 = .ok (.pop, 1) := dz1 (k := 19) (m := 1) dzd0_cL_law_704 di_331 (Nat.zero_lt_succ _) rfl
theorem dL_law_724 : decode cL_law 724 = .ok (.aload_n 2, 1) := dz1 (k := 20) (m := 1) dzd0_cL_law_704 di_493 (Nat.zero_lt_succ _) rfl
theorem dL_law_725 : decode cL_law 725 = .ok (.aload_n 0, 1) := dz1 (k := 21) (m := 1) dzd0_cL_law_704 di_0 (Nat.zero_lt_succ _) rfl
theorem dL_law_726 : decode cL_law 726 = .ok (.iload_n 3, 1) := dz1 (k := 22) (m := 1) dzd0_cL_law_704 di_3 (Nat.zero_lt_succ _) rfl
theorem dL_law_727 : decode cL_law 727 = .ok (.iconst 1, 1) := dz1 (k := 23) (m := 1) dzd0_cL_law_704 di_10 (Nat.zero_lt_succ _) rfl
theorem dL_law_728 : decode cL_law 728 = .ok (.iadd, 1) := dz1 (k := 24) (m := 1) dzd0_cL_law_704 di_24 (Nat.zero_lt_succ _) rfl
theorem dL_law_729 : decode cL_law 729 = .ok (.iaload, 1) := dz1 (k := 25) (m := 1) dzd0_cL_law_704 di_30 (Nat.zero_lt_succ _) rfl
theorem dL_law_730 : decode cL_law 730 = .ok (.invokevirtual 84, 3) := dz1 (k := 26) (m := 3) dzd0_cL_law_704 di_767 (Nat.zero_lt_succ _) rfl
theorem dL_law_733 : decode cL_law 733 = .ok (.pop, 1) := dz1 (k := 29) (m := 1) dzd0_cL_law_704 di_331 (Nat.zero_lt_succ _) rfl
theorem dL_law_734 : decode cL_law 734 = .ok (.goto 534, 3) := dz1 (k := 30) (m := 3) dzd0_cL_law_704 di_768 (Nat.zero_lt_succ _) rfl
set_option maxRecDepth 100000 in
theorem dzd0_cL_law_736 : DzLies cL_law (.mk ⟨[0x16, 0x2b, 0x2a, 0x1d, 0x04, 0x60, 0x2e, 0xb6, 0x00, 0x55, 0x57, 0x2c, 0x2a, 0x1d, 0x04, 0x60, 0x2e, 0xb6, 0x00, 0x58, 0x57, 0xa7, 0x01, 0xff, 0x2b, 0x2a, 0x1d, 0x04, 0x60, 0x2e, 0x2a, 0x1d]⟩) 736 := dz_lies (m := 32) (Nat.zero_lt_succ _) rfl
theorem dL_law_737 : decode cL_law 737 = .ok (.aload_n 1, 1) := dz1 (k := 1) (m := 1) dzd0_cL_law_736 di_26 (Nat.zero_lt_succ _) rfl
theorem dL_law_738 : decode cL_law 738 = .ok (.aload_n 0, 1) := dz1 (k := 2) (m := 1) dzd0_cL_law_736 di_0 (Nat.zero_lt_succ _) rfl
theorem dL_law_739 : decode cL_law 739 = .ok (.iload_n 3, 1) := dz1 (k := 3) (m := 1) dzd0_cL_law_736 di_3 (Nat.zero_lt_succ _) rfl
theorem dL_law_740 : decode cL_law 740 = .ok (.iconst 1, 1) := dz1 (k := 4) (m := 1) dzd0_cL_law_736 di_10 (Nat.zero_lt_succ _) rfl
theorem dL_law_741 : decode cL_law 741 = .ok (.iadd, 1) := dz1 (k := 5) (m := 1) dzd0_cL_law_736 di_24 (Nat.zero_lt_succ _) rfl
theorem dL_law_742 : decode cL_law 742 = .ok (.iaload, 1) := dz1 (k := 6) (m := 1) dzd0_cL_law_736 di_30 (Nat.zero_lt_succ _) rfl
theorem dL_law_743 : decode cL_law 743 = .ok (.invokevirtual 85, 3) := dz1 (k := 7) (m := 3) dzd0_cL_law_736 di_769 (Nat.zero_lt_succ _) rfl
theorem dL_law_746 : decode cL_law 746 = .ok (.pop, 1) := dz1 (k := 10) (m := 1) dzd0_cL_law_736 di_331 (Nat.zero_lt_succ _) rfl
theorem dL_law_747 : decode cL_law 747 = .ok (.aload_n 2, 1) := dz1 (k := 11) (m := 1) dzd0_cL_law_736 di_493 (Nat.zero_lt_succ _) rfl
theorem dL_law_748 : decode cL_law 748 = .ok (.aload_n 0, 1) := dz1 (k := 12) (m := 1) dzd0_cL_law_736 di_0 (Nat.zero_lt_succ _) rfl
theorem dL_law_749 : decode cL_law 749 = .ok (.iload_n 3, 1) := dz1 (k := 13) (m := 1) dzd0_cL_law_736 di_3 (Nat.zero_lt_succ _) rfl
theorem dL_law_750 : decode cL_law 750 = .ok (.iconst 1, 1) := dz1 (k := 14) (m := 1) dzd0_cL_law_736 di_10 (Nat.zero_lt_succ _) rfl
theorem dL_law_751 : decode cL_law 751 = .ok (.iadd, 1) := dz1 (k := 15) (m := 1) dzd0_cL_law_736 di_24 (Nat.zero_lt_succ _) rfl
theorem dL_law_752 : decode cL_law 752 = .ok (.iaload, 1) := dz1 (k := 16) (m := 1) dzd0_cL_law_736 di_30 (Nat.zero_lt_succ _) rfl
theorem dL_law_753 : decode cL_law 753 = .ok (.invokevirtual 88, 3) := dz1 (k := 17) (m := 3) dzd0_cL_law_736 di_770 (Nat.zero_lt_succ _) rfl
theorem dL_law_756 : decode cL_law 756 = .ok (.pop, 1) := dz1 (k := 20) (m := 1) dzd0_cL_law_736 di_331 (Nat.zero_lt_succ _) rfl
theorem dL_law_757 : decode cL_law 757 = .ok (.goto 511, 3) := dz1 (k := 21) (m := 3) dzd0_cL_law_736 di_771 (Nat.zero_lt_succ _) rfl
theorem dL_law_760 : decode cL_law 760 = .ok (.aload_n 1, 1) := dz1 (k := 24) (m := 1) dzd0_cL_law_736 di_26 (Nat.zero_lt_succ _) rfl
theorem dL_law_761 : decode cL_law 761 = .ok (.aload_n 0, 1) := dz1 (k := 25) (m := 1) dzd0_cL_law_736 di_0 (Nat.zero_lt_succ _) rfl
theorem dL_law_762 : decode cL_law 762 = .ok (.iload_n 3, 1) := dz1 (k := 26) (m := 1) dzd0_cL_law_736 di_3 (Nat.zero_lt_succ _) rfl
theorem dL_law_763 : decode cL_law 763 = .ok (.iconst 1, 1) := dz1 (k := 27) (m := 1) dzd0_cL_law_736 di_10 (Nat.zero_lt_succ _) rfl
theorem dL_law_764 : decode cL_law 764 = .ok (.iadd, 1) := dz1 (k := 28) (m := 1) dzd0_cL_law_736 di_24 (Nat.zero_lt_succ _) rfl
theorem dL_law_765 : decode cL_law 765 = .ok (.iaload, 1) := dz1 (k := 29) (m := 1) dzd0_cL_law_736 di_30 (Nat.zero_lt_succ _) rfl
theorem dL_law_766 : decode cL_law 766 = .ok (.aload_n 0, 1) := dz1 (k := 30) (m := 1) dzd0_cL_law_736 di_0 (Nat.zero_lt_succ _) rfl
theorem dL_law_767 : decode cL_law 767 = .ok (.iload_n 3, 1) := dz1 (k := 31) (m := 1) dzd0_cL_law_736 di_3 (Nat.zero_lt_succ _) rfl
set_option maxRecDepth 100000 in
theorem dzd0_cL_law_768 : DzLies cL_law (.mk ⟨[0x05, 0x60, 0x2e, 0x2a, 0x1d, 0x06, 0x60, 0x2e, 0x2a, 0x1d, 0x07, 0x60, 0x2e, 0xb6, 0x00, 0x59, 0x57, 0x2c, 0x2a, 0x1d, 0x04, 0x60, 0x2e, 0x2a, 0x1d, 0x05, 0x60, 0x2e, 0x2a, 0x1d, 0x06, 0x60]⟩) 768 := dz_lies (m := 32) (Nat.zero_lt_succ _) rfl
theorem dL_law_768 : decode cL_law 768 = .ok (.iconst 2, 1) := dz1 (k := 0) (m := 1) dzd0_cL_law_768 di_6 (Nat.zero_lt_succ _) rfl
theorem dL_law_769 : decode cL_law 769 = .ok (.iadd, 1) := dz1 (k := 1) (m := 1) dzd0_cL_law_768 di_24 (Nat.zero_lt_succ _) rfl
theorem dL_law_770 : decode cL_law 770 = .ok (.iaload, 1) := dz1 (k := 2) (m := 1) dzd0_cL_law_768 di_30 (Nat.zero_lt_succ _) rfl
theorem dL_law_771 : decode cL_law 771 = .ok (.aload_n 0, 1) := dz1 (k := 3) (m := 1) dzd0_cL_law_768 di_0 (Nat.zero_lt_succ _) rfl
theorem dL_law_772 : decode cL_law 772 = .ok (.iload_n 3, 1) := dz1 (k := 4) (m := 1) dzd0_cL_law_768 di_3 (Nat.zero_lt_succ _) rfl
theorem dL_law_773 : decode cL_law 773 = .ok (.iconst 3, 1) := dz1 (k := 5) (m := 1) dzd0_cL_law_768 di_4 (Nat.zero_lt_succ _) rfl
theorem dL_law_774 : decode cL_law 774 = .ok (.iadd, 1) := dz1 (k := 6) (m := 1) dzd0_cL_law_768 di_24 (Nat.zero_lt_succ _) rfl
theorem dL_law_775 : decode cL_law 775 = .ok (.iaload, 1) := dz1 (k := 7) (m := 1) dzd0_cL_law_768 di_30 (Nat.zero_lt_succ _) rfl
theorem dL_law_776 : decode cL_law 776 = .ok (.aload_n 0, 1) := dz1 (k := 8) (m := 1) dzd0_cL_law_768 di_0 (Nat.zero_lt_succ _) rfl
theorem dL_law_777 : decode cL_law 777 = .ok (.iload_n 3, 1) := dz1 (k := 9) (m := 1) dzd0_cL_law_768 di_3 (Nat.zero_lt_succ _) rfl
theorem dL_law_778 : decode cL_law 778 = .ok (.iconst 4, 1) := dz1 (k := 10) (m := 1) dzd0_cL_law_768 di_33 (Nat.zero_lt_succ _) rfl
theorem dL_law_779 : decode cL_law 779 = .ok (.iadd, 1) := dz1 (k := 11) (m := 1) dzd0_cL_law_768 di_24 (Nat.zero_lt_succ _) rfl
theorem dL_law_780 : decode cL_law 780 = .ok (.iaload, 1) := dz1 (k := 12) (m := 1) dzd0_cL_law_768 di_30 (Nat.zero_lt_succ _) rfl
theorem dL_law_781 : decode cL_law 781 = .ok (.invokevirtual 89, 3) := dz1 (k := 13) (m := 3) dzd0_cL_law_768 di_772 (Nat.zero_lt_succ _) rfl
theorem dL_law_784 : decode cL_law 784 = .ok (.pop, 1) := dz1 (k := 16) (m := 1) dzd0_cL_law_768 di_331 (Nat.zero_lt_succ _) rfl
theorem dL_law_785 : decode cL_law 785 = .ok (.aload_n 2, 1) := dz1 (k := 17) (m := 1) dzd0_cL_law_768 di_493 (Nat.zero_lt_succ _) rfl
theorem dL_law_786 : decode cL_law 786 = .ok (.aload_n 0, 1) := dz1 (k := 18) (m := 1) dzd0_cL_law_768 di_0 (Nat.zero_lt_succ _) rfl
theorem dL_law_787 : decode cL_law 787 = .ok (.iload_n 3, 1) := dz1 (k := 19) (m := 1) dzd0_cL_law_768 di_3 (Nat.zero_lt_succ _) rfl
theorem dL_law_788 : decode cL_law 788 = .ok (.iconst 1, 1) := dz1 (k := 20) (m := 1) dzd0_cL_law_768 di_10 (Nat.zero_lt_succ _) rfl
theorem dL_law_789 : decode cL_law 789 = .ok (.iadd, 1) := dz1 (k := 21) (m := 1) dzd0_cL_law_768 di_24 (Nat.zero_lt_succ _) rfl
theorem dL_law_790 : decode cL_law 790 = .ok (.iaload, 1) := dz1 (k := 22) (m := 1) dzd0_cL_law_768 di_30 (Nat.zero_lt_succ _) rfl
theorem dL_law_791 : decode cL_law 791 = .ok (.aload_n 0, 1) := dz1 (k := 23) (m := 1) dzd0_cL_law_768 di_0 (Nat.zero_lt_succ _) rfl
theorem dL_law_792 : decode cL_law 792 = .ok (.iload_n 3, 1) := dz1 (k := 24) (m := 1) dzd0_cL_law_768 di_3 (Nat.zero_lt_succ _) rfl
theorem dL_law_793 : decode cL_law 793 = .ok (.iconst 2, 1) := dz1 (k := 25) (m := 1) dzd0_cL_law_768 di_6 (Nat.zero_lt_succ _) rfl
theorem dL_law_794 : decode cL_law 794 = .ok (.iadd, 1) := dz1 (k := 26) (m := 1) dzd0_cL_law_768 di_24 (Nat.zero_lt_succ _) rfl
theorem dL_law_795 : decode cL_law 795 = .ok (.iaload, 1) := dz1 (k := 27) (m := 1) dzd0_cL_law_768 di_30 (Nat.zero_lt_succ _) rfl
theorem dL_law_796 : decode cL_law 796 = .ok (.aload_n 0, 1) := dz1 (k := 28) (m := 1) dzd0_cL_law_768 di_0 (Nat.zero_lt_succ _) rfl
theorem dL_law_797 : decode cL_law 797 = .ok (.iload_n 3, 1) := dz1 (k := 29) (m := 1) dzd0_cL_law_768 di_3 (Nat.zero_lt_succ _) rfl
theorem dL_law_798 : decode cL_law 798 = .ok (.iconst 3, 1) := dz1 (k := 30) (m := 1) dzd0_cL_law_768 di_4 (Nat.zero_lt_succ _) rfl
theorem dL_law_799 : decode cL_law 799 = .ok (.iadd, 1) := dz1 (k := 31) (m := 1) dzd0_cL_law_768 di_24 (Nat.zero_lt_succ _) rfl
set_option maxRecDepth 100000 in
theorem dzd0_cL_law_800 : DzLies cL_law (.mk ⟨[0x2e, 0x2a, 0x1d, 0x07, 0x60, 0x2e, 0xb6, 0x00, 0x5d, 0x57, 0xa7, 0x01, 0xca, 0x2b, 0x2a, 0x1d, 0x04, 0x60, 0x2e, 0xb6, 0x00, 0x5e, 0x57, 0x2c, 0x2a, 0x1d, 0x04, 0x60, 0x2e, 0xb6, 0x00, 0x61]⟩) 800 := dz_lies (m := 32) (Nat.zero_lt_succ _) rfl
theorem dL_law_800 : decode cL_law 800 = .ok (.iaload, 1) := dz1 (k := 0) (m := 1) dzd0_cL_law_800 di_30 (Nat.zero_lt_succ _) rfl
theorem dL_law_801 : decode cL_law 801 = .ok (.aload_n 0, 1) := dz1 (k := 1) (m := 1) dzd0_cL_law_800 di_0 (Nat.zero_lt_succ _) rfl
theorem dL_law_802 : decode cL_law 802 = .ok (.iload_n 3, 1) := dz1 (k := 2) (m := 1) dzd0_cL_law_800 di_3 (Nat.zero_lt_succ _) rfl
theorem dL_law_803 : decode cL_law 803 = .ok (.iconst 4, 1) := dz1 (k := 3) (m := 1) dzd0_cL_law_800 di_33 (Nat.zero_lt_succ _) rfl
theorem dL_law_804 : decode cL_law 804 = .ok (.iadd, 1) := dz1 (k := 4) (m := 1) dzd0_cL_law_800 di_24 (Nat.zero_lt_succ _) rfl
theorem dL_law_805 : decode cL_law 805 = .ok (.iaload, 1) := dz1 (k := 5) (m := 1) dzd0_cL_law_800 di_30 (Nat.zero_lt_succ _) rfl
theorem dL_law_806 : decode cL_law 806 = .ok (.invokevirtual 93, 3) := dz1 (k := 6) (m := 3) dzd0_cL_law_800 di_773 (Nat.zero_lt_succ _) rfl
theorem dL_law_809 : decode cL_law 809 = .ok (.pop, 1) := dz1 (k := 9) (m := 1) dzd0_cL_law_800 di_331 (Nat.zero_lt_succ _) rfl
theorem dL_law_810 : decode cL_law 810 = .ok (.goto 458, 3) := dz1 (k := 10) (m := 3) dzd0_cL_law_800 di_774 (Nat.zero_lt_succ _) rfl
theorem dL_law_813 : decode cL_law 813 = .ok (.aload_n 1, 1) := dz1 (k := 13) (m := 1) dzd0_cL_law_800 di_26 (Nat.zero_lt_succ _) rfl
theorem dL_law_814 : decode cL_law 814 = .ok (.aload_n 0, 1) := dz1 (k := 14) (m := 1) dzd0_cL_law_800 di_0 (Nat.zero_lt_succ _) rfl
theorem dL_law_815 : decode cL_law 815 = .ok (.iload_n 3, 1) := dz1 (k := 15) (m := 1) dzd0_cL_law_800 di_3 (Nat.zero_lt_succ _) rfl
theorem dL_law_816 : decode cL_law 816 = .ok (.iconst 1, 1) := dz1 (k := 16) (m := 1) dzd0_cL_law_800 di_10 (Nat.zero_lt_succ _) rfl
theorem dL_law_817 : decode cL_law 817 = .ok (.iadd, 1) := dz1 (k := 17) (m := 1) dzd0_cL_law_800 di_24 (Nat.zero_lt_succ _) rfl
theorem dL_law_818 : decode cL_law 818 = .ok (.iaload, 1) := dz1 (k := 18) (m := 1) dzd0_cL_law_800 di_30 (Nat.zero_lt_succ _) rfl
theorem dL_law_819 : decode cL_law 819 = .ok (.invokevirtual 94, 3) := dz1 (k := 19) (m := 3) dzd0_cL_law_800 di_775 (Nat.zero_lt_succ _) rfl
theorem dL_law_822 : decode cL_law 822 = .ok (.pop, 1) := dz1 (k := 22) (m := 1) dzd0_cL_law_800 di_331 (Nat.zero_lt_succ _) rfl
theorem dL_law_823 : decode cL_law 823 = .ok (.aload_n 2, 1) := dz1 (k := 23) (m := 1) dzd0_cL_law_800 di_493 (Nat.zero_lt_succ _) rfl
theorem dL_law_824 : decode cL_law 824 = .ok (.aload_n 0, 1) := dz1 (k := 24) (m := 1) dzd0_cL_law_800 di_0 (Nat.zero_lt_succ _) rfl
theorem dL_law_825 : decode cL_law 825 = .ok (.iload_n 3, 1) := dz1 (k := 25) (m := 1) dzd0_cL_law_800 di_3 (Nat.zero_lt_succ _) rfl
theorem dL_law_826 : decode cL_law 826 = .ok (.iconst 1, 1) := dz1 (k := 26) (m := 1) dzd0_cL_law_800 di_10 (Nat.zero_lt_succ _) rfl
theorem dL_law_827 : decode cL_law 827 = .ok (.iadd, 1) := dz1 (k := 27) (m := 1) dzd0_cL_law_800 di_24 (Nat.zero_lt_succ _) rfl
theorem dL_law_828 : decode cL_law 828 = .ok (.iaload, 1) := dz1 (k := 28) (m := 1) dzd0_cL_law_800 di_30 (Nat.zero_lt_succ _) rfl
theorem dL_law_829 : decode cL_law 829 = .ok (.invokevirtual 97, 3) := dz1 (k := 29) (m := 3) dzd0_cL_law_800 di_555 (Nat.zero_lt_succ _) rfl
set_option maxRecDepth 100000 in
theorem dzd0_cL_law_832 : DzLies cL_law (.mk ⟨[0x57, 0xa7, 0x01, 0xb3, 0x2b, 0xb6, 0x00, 0x62, 0x57, 0x2c, 0xb6, 0x00, 0x66, 0x57, 0xa7, 0x01, 0xa6, 0x2b, 0x2a, 0x1d, 0x04, 0x60, 0x2e, 0x2a, 0x1d, 0x05, 0x60, 0x2e, 0xb6, 0x00, 0x67, 0x57]⟩) 832 := dz_lies (m := 32) (Nat.zero_lt_succ _) rfl
theorem dL_law_832 : decode cL_law 832 = .ok (.pop, 1) := dz1 (k := 0) (m := 1) dzd0_cL_law_832 di_331 (Nat.zero_lt_succ _) rfl
theorem dL_law_833 : decode cL_law 833 = .ok (.goto 435, 3) := dz1 (k := 1) (m := 3) dzd0_cL_law_832 di_776 (Nat.zero_lt_succ _) rfl
theorem dL_law_836 : decode cL_law 836 = .ok (.aload_n 1, 1) := dz1 (k := 4) (m := 1) dzd0_cL_law_832 di_26 (Nat.zero_lt_succ _) rfl
theorem dL_law_837 : decode cL_law 837 = .ok (.invokevirtual 98, 3) := dz1 (k := 5) (m := 3) dzd0_cL_law_832 di_777 (Nat.zero_lt_succ _) rfl
theorem dL_law_840 : decode cL_law 840 = .ok (.pop, 1) := dz1 (k := 8) (m := 1) dzd0_cL_law_832 di_331 (Nat.zero_lt_succ _) rfl
theorem dL_law_841 : decode cL_law 841 = .ok (.aload_n 2, 1) := dz1 (k := 9) (m := 1) dzd0_cL_law_832 di_493 (Nat.zero_lt_succ _) rfl
theorem dL_law_842 : decode cL_law 842 = .ok (.invokevirtual 102, 3) := dz1 (k := 10) (m := 3) dzd0_cL_law_832 di_237 (Nat.zero_lt_succ _) rfl
theorem dL_law_845 : decode cL_law 845 = .ok (.pop, 1) := dz1 (k := 13) (m := 1) dzd0_cL_law_832 di_331 (Nat.zero_lt_succ _) rfl
theorem dL_law_846 : decode cL_law 846 = .ok (.goto 422, 3) := dz1 (k := 14) (m := 3) dzd0_cL_law_832 di_778 (Nat.zero_lt_succ _) rfl
theorem dL_law_849 : decode cL_law 849 = .ok (.aload_n 1, 1) := dz1 (k := 17) (m := 1) dzd0_cL_law_832 di_26 (Nat.zero_lt_succ _) rfl
theorem dL_law_850 : decode cL_law 850 = .ok (.aload_n 0, 1) := dz1 (k := 18) (m := 1) dzd0_cL_law_832 di_0 (Nat.zero_lt_succ _) rfl
theorem dL_law_851 : decode cL_law 851 = .ok (.iload_n 3, 1) := dz1 (k := 19) (m := 1) dzd0_cL_law_832 di_3 (Nat.zero_lt_succ _) rfl
theorem dL_law_852 : decode cL_law 852 = .ok (.iconst 1, 1) := dz1 (k := 20) (m := 1) dzd0_cL_law_832 di_10 (Nat.zero_lt_succ _) rfl
theorem dL_law_853 : decode cL_law 853 = .ok (.iadd, 1) := dz1 (k := 21) (m := 1) dzd0_cL_law_832 di_24 (Nat.zero_lt_succ _) rfl
theorem dL_law_854 : decode cL_law 854 = .ok (.iaload, 1) := dz1 (k := 22) (m := 1) dzd0_cL_law_832 di_30 (Nat.zero_lt_succ _) rfl
theorem dL_law_855 : decode cL_law 855 = .ok (.aload_n 0, 1) := dz1 (k := 23) (m := 1) dzd0_cL_law_832 di_0 (Nat.zero_lt_succ _) rfl
theorem dL_law_856 : decode cL_law 856 = .ok (.iload_n 3, 1) := dz1 (k := 24) (m := 1) dzd0_cL_law_832 di_3 (Nat.zero_lt_succ _) rfl
theorem dL_law_857 : decode cL_law 857 = .ok (.iconst 2, 1) := dz1 (k := 25) (m := 1) dzd0_cL_law_832 di_6 (Nat.zero_lt_succ _) rfl
theorem dL_law_858 : decode cL_law 858 = .ok (.iadd, 1) := dz1 (k := 26) (m := 1) dzd0_cL_law_832 di_24 (Nat.zero_lt_succ _) rfl
theorem dL_law_859 : decode cL_law 859 = .ok (.iaload, 1) := dz1 (k := 27) (m := 1) dzd0_cL_law_832 di_30 (Nat.zero_lt_succ _) rfl
theorem dL_law_860 : decode cL_law 860 = .ok (.invokevirtual 103, 3) := dz1 (k := 28) (m := 3) dzd0_cL_law_832 di_779 (Nat.zero_lt_succ _) rfl
theorem dL_law_863 : decode cL_law 863 = .ok (.pop, 1) := dz1 (k := 31) (m := 1) dzd0_cL_law_832 di_331 (Nat.zero_lt_succ _) rfl
set_option maxRecDepth 100000 in
theorem dzd0_cL_law_864 : DzLies cL_law (.mk ⟨[0x2c, 0x2a, 0x1d, 0x04, 0x60, 0x2e, 0x2a, 0x1d, 0x05, 0x60, 0x2e, 0xb6, 0x00, 0x6a, 0x57, 0xa7, 0x01, 0x85, 0x2b, 0x2a, 0x1d, 0x04, 0x60, 0x2e, 0x2a, 0x1d, 0x05, 0x60, 0x2e, 0xb6, 0x00, 0x6b]⟩) 864 := dz_lies (m := 32) (Nat.zero_lt_succ _) rfl
theorem dL_law_864 : decode cL_law 864 = .ok (.aload_n 2, 1) := dz1 (k := 0) (m := 1) dzd0_cL_law_864 di_493 (Nat.zero_lt_succ _) rfl
theorem dL_law_865 : decode cL_law 865 = .ok (.aload_n 0, 1) := dz1 (k := 1) (m := 1) dzd0_cL_law_864 di_0 (Nat.zero_lt_succ _) rfl
theorem dL_law_866 : decode cL_law 866 = .ok (.iload_n 3, 1) := dz1 (k := 2) (m := 1) dzd0_cL_law_864 di_3 (Nat.zero_lt_succ _) rfl
theorem dL_law_867 : decode cL_law 867 = .ok (.iconst 1, 1) := dz1 (k := 3) (m := 1) dzd0_cL_law_864 di_10 (Nat.zero_lt_succ _) rfl
theorem dL_law_868 : decode cL_law 868 = .ok (.iadd, 1) := dz1 (k := 4) (m := 1) dzd0_cL_law_864 di_24 (Nat.zero_lt_succ _) rfl
theorem dL_law_869 : decode cL_law 869 = .ok (.iaload, 1) := dz1 (k := 5) (m := 1) dzd0_cL_law_864 di_30 (Nat.zero_lt_succ _) rfl
theorem dL_law_870 : decode cL_law 870 = .ok (.aload_n 0, 1) := dz1 (k := 6) (m := 1) dzd0_cL_law_864 di_0 (Nat.zero_lt_succ _) rfl
theorem dL_law_871 : decode cL_law 871 = .ok (.iload_n 3, 1) := dz1 (k := 7) (m := 1) dzd0_cL_law_864 di_3 (Nat.zero_lt_succ _) rfl
theorem dL_law_872 : decode cL_law 872 = .ok (.iconst 2, 1) := dz1 (k := 8) (m := 1) dzd0_cL_law_864 di_6 (Nat.zero_lt_succ _) rfl
theorem dL_law_873 : decode cL_law 873 = .ok (.iadd, 1) := dz1 (k := 9) (m := 1) dzd0_cL_law_864 di_24 (Nat.zero_lt_succ _) rfl
theorem dL_law_874 : decode cL_law 874 = .ok (.iaload, 1) := dz1 (k := 10) (m := 1) dzd0_cL_law_864 di_30 (Nat.zero_lt_succ _) rfl
theorem dL_law_875 : decode cL_law 875 = .ok (.invokevirtual 106, 3) := dz1 (k := 11) (m := 3) dzd0_cL_law_864 di_780 (Nat.zero_lt_succ _) rfl
theorem dL_law_878 : decode cL_law 878 = .ok (.pop, 1) := dz1 (k := 14) (m := 1) dzd0_cL_law_864 di_331 (Nat.zero_lt_succ _) rfl
theorem dL_law_879 : decode cL_law 879 = .ok (.goto 389, 3) := dz1 (k := 15) (m := 3) dzd0_cL_law_864 di_781 (Nat.zero_lt_succ _) rfl
theorem dL_law_882 : decode cL_law 882 = .ok (.aload_n 1, 1) := dz1 (k := 18) (m := 1) dzd0_cL_law_864 di_26 (Nat.zero_lt_succ _) rfl
theorem dL_law_883 : decode cL_law 883 = .ok (.aload_n 0, 1) := dz1 (k := 19) (m := 1) dzd0_cL_law_864 di_0 (Nat.zero_lt_succ _) rfl
theorem dL_law_884 : decode cL_law 884 = .ok (.iload_n 3, 1) := dz1 (k := 20) (m := 1) dzd0_cL_law_864 di_3 (Nat.zero_lt_succ _) rfl
theorem dL_law_885 : decode cL_law 885 = .ok (.iconst 1, 1) := dz1 (k := 21) (m := 1) dzd0_cL_law_864 di_10 (Nat.zero_lt_succ _) rfl
theorem dL_law_886 : decode cL_law 886 = .ok (.iadd, 1) := dz1 (k := 22) (m := 1) dzd0_cL_law_864 di_24 (Nat.zero_lt_succ _) rfl
theorem dL_law_887 : decode cL_law 887 = .ok (.iaload, 1) := dz1 (k := 23) (m := 1) dzd0_cL_law_864 di_30 (Nat.zero_lt_succ _) rfl
theorem dL_law_888 : decode cL_law 888 = .ok (.aload_n 0, 1) := dz1 (k := 24) (m := 1) dzd0_cL_law_864 di_0 (Nat.zero_lt_succ _) rfl
theorem dL_law_889 : decode cL_law 889 = .ok (.iload_n 3, 1) := dz1 (k := 25) (m := 1) dzd0_cL_law_864 di_3 (Nat.zero_lt_succ _) rfl
theorem dL_law_890 : decode cL_law 890 = .ok (.iconst 2, 1) := dz1 (k := 26) (m := 1) dzd0_cL_law_864 di_6 (Nat.zero_lt_succ _) rfl
theorem dL_law_891 : decode cL_law 891 = .ok (.iadd, 1) := dz1 (k := 27) (m := 1) dzd0_cL_law_864 di_24 (Nat.zero_lt_succ _) rfl
theorem dL_law_892 : decode cL_law 892 = .ok (.iaload, 1) := dz1 (k := 28) (m := 1) dzd0_cL_law_864 di_30 (Nat.zero_lt_succ _) rfl
theorem dL_law_893 : decode cL_law 893 = .ok (.invokevirtual 107, 3) := dz1 (k := 29) (m := 3) dzd0_cL_law_864 di_560 (Nat.zero_lt_succ _) rfl
set_option maxRecDepth 100000 in
theorem dzd0_cL_law_896 : DzLies cL_law (.mk ⟨[0x57, 0x2c, 0x2a, 0x1d, 0x04, 0x60, 0x2e, 0x2a, 0x1d, 0x05, 0x60, 0x2e, 0xb6, 0x00, 0x6e, 0x57, 0xa7, 0x01, 0x64, 0x2b, 0x2a, 0x1d, 0x04, 0x60, 0x2e, 0x2a, 0x1d, 0x05, 0x60, 0x2e, 0xb6, 0x00, 0x6f]⟩) 896 := dz_lies (m := 33) (Nat.zero_lt_succ _) rfl
theorem dL_law_896 : decode cL_law 896 = .ok (.pop, 1) := dz1 (k := 0) (m := 1) dzd0_cL_law_896 di_331 (Nat.zero_lt_succ _) rfl
theorem dL_law_897 : decode cL_law 897 = .ok (.aload_n 2, 1) := dz1 (k := 1) (m := 1) dzd0_cL_law_896 di_493 (Nat.zero_lt_succ _) rfl
theorem dL_law_898 : decode cL_law 898 = .ok (.aload_n 0, 1) := dz1 (k := 2) (m := 1) dzd0_cL_law_896 di_0 (Nat.zero_lt_succ _) rfl
theorem dL_law_899 : decode cL_law 899 = .ok (.iload_n 3, 1) := dz1 (k := 3) (m := 1) dzd0_cL_law_896 di_3 (Nat.zero_lt_succ _) rfl
theorem dL_law_900 : decode cL_law 900 = .ok (.iconst 1, 1) := dz1 (k := 4) (m := 1) dzd0_cL_law_896 di_10 (Nat.zero_lt_succ _) rfl
theorem dL_law_901 : decode cL_law 901 = .ok (.iadd, 1) := dz1 (k := 5) (m := 1) dzd0_cL_law_896 di_24 (Nat.zero_lt_succ _) rfl
theorem dL_law_902 : decode cL_law 902 = .ok (.iaload, 1) := dz1 (k := 6) (m := 1) dzd0_cL_law_896 di_30 (Nat.zero_lt_succ _) rfl
theorem dL_law_903 : decode cL_law 903 = .ok (.aload_n 0, 1) := dz1 (k := 7) (m := 1) dzd0_cL_law_896 di_0 (Nat.zero_lt_succ _) rfl
theorem dL_law_904 : decode cL_law 904 = .ok (.iload_n 3, 1) := dz1 (k := 8) (m := 1) dzd0_cL_law_896 di_3 (Nat.zero_lt_succ _) rfl
theorem dL_law_905 : decode cL_law 905 = .ok (.iconst 2, 1) := dz1 (k := 9) (m := 1) dzd0_cL_law_896 di_6 (Nat.zero_lt_succ _) rfl
theorem dL_law_906 : decode cL_law 906 = .ok (.iadd, 1) := dz1 (k := 10) (m := 1) dzd0_cL_law_896 di_24 (Nat.zero_lt_succ _) rfl
theorem dL_law_907 : decode cL_law 907 = .ok (.iaload, 1) := dz1 (k := 11) (m := 1) dzd0_cL_law_896 di_30 (Nat.zero_lt_succ _) rfl
theorem dL_law_908 : decode cL_law 908 = .ok (.invokevirtual 110, 3) := dz1 (k := 12) (m := 3) dzd0_cL_law_896 di_782 (Nat.zero_lt_succ _) rfl
theorem dL_law_911 : decode cL_law 911 = .ok (.pop, 1) := dz1 (k := 15) (m := 1) dzd0_cL_law_896 di_331 (Nat.zero_lt_succ _) rfl
theorem dL_law_912 : decode cL_law 912 = .ok (.goto 356, 3) := dz1 (k := 16) (m := 3) dzd0_cL_law_896 di_783 (Nat.zero_lt_succ _) rfl
theorem dL_law_915 : decode cL_law 915 = .ok (.aload_n 1, 1) := dz1 (k := 19) (m := 1) dzd0_cL_law_896 di_26 (Nat.zero_lt_succ _) rfl
theorem dL_law_916 : decode cL_law 916 = .ok (.aload_n 0, 1) := dz1 (k := 20) (m := 1) dzd0_cL_law_896 di_0 (Nat.zero_lt_succ _) rfl
theorem dL_law_917 : decode cL_law 917 = .ok (.iload_n 3, 1) := dz1 (k := 21) (m := 1) dzd0_cL_law_896 di_3 (Nat.zero_lt_succ _) rfl
theorem dL_law_918 : decode cL_law 918 = .ok (.iconst 1, 1) := dz1 (k := 22) (m := 1) dzd0_cL_law_896 di_10 (Nat.zero_lt_succ _) rfl
theorem dL_law_919 : decode cL_law 919 = .ok (.iadd, 1) := dz1 (k := 23) (m := 1) dzd0_cL_law_896 di_24 (Nat.zero_lt_succ _) rfl
theorem dL_law_920 : decode cL_law 920 = .ok (.iaload, 1) := dz1 (k := 24) (m := 1) dzd0_cL_law_896 di_30 (Nat.zero_lt_succ _) rfl
theorem dL_law_921 : decode cL_law 921 = .ok (.aload_n 0, 1) := dz1 (k := 25) (m := 1) dzd0_cL_law_896 di_0 (Nat.zero_lt_succ _) rfl
theorem dL_law_922 : decode cL_law 922 = .ok (.iload_n 3, 1) := dz1 (k := 26) (m := 1) dzd0_cL_law_896 di_3 (Nat.zero_lt_succ _) rfl
theorem dL_law_923 : decode cL_law 923 = .ok (.iconst 2, 1) := dz1 (k := 27) (m := 1) dzd0_cL_law_896 di_6 (Nat.zero_lt_succ _) rfl
theorem dL_law_924 : decode cL_law 924 = .ok (.iadd, 1) := dz1 (k := 28) (m := 1) dzd0_cL_law_896 di_24 (Nat.zero_lt_succ _) rfl
theorem dL_law_925 : decode cL_law 925 = .ok (.iaload, 1) := dz1 (k := 29) (m := 1) dzd0_cL_law_896 di_30 (Nat.zero_lt_succ _) rfl
theorem dL_law_926 : decode cL_law 926 = .ok (.invokevirtual 111, 3) := dz1 (k := 30) (m := 3) dzd0_cL_law_896 di_784 (Nat.zero_lt_succ _) rfl
set_option maxRecDepth 100000 in
theorem dzd0_cL_law_928 : DzLies cL_law (.mk ⟨[0x6f, 0x57, 0x2c, 0x2a, 0x1d, 0x04, 0x60, 0x2e, 0x2a, 0x1d, 0x05, 0x60, 0x2e, 0xb6, 0x00, 0x72, 0x57, 0xa7, 0x01, 0x43, 0x2b, 0x2a, 0x1d, 0x04, 0x60, 0x2e, 0x2a, 0x1d, 0x05, 0x60, 0x2e, 0xb6, 0x00, 0x73]⟩) 928 := dz_lies (m := 34) (Nat.zero_lt_succ _) rfl
theorem dL_law_929 : decode cL_law 929 = .ok (.pop, 1) := dz1 (k := 1) (m := 1) dzd0_cL_law_928 di_331 (Nat.zero_lt_succ _) rfl
theorem dL_law_930 : decode cL_law 930 = .ok (.aload_n 2, 1) := dz1 (k := 2) (m := 1) dzd0_cL_law_928 di_493 (Nat.zero_lt_succ _) rfl
theorem dL_law_931 : decode cL_law 931 = .ok (.aload_n 0, 1) := dz1 (k := 3) (m := 1) dzd0_cL_law_928 di_0 (Nat.zero_lt_succ _) rfl
theorem dL_law_932 : decode cL_law 932 = .ok (.iload_n 3, 1) := dz1 (k := 4) (m := 1) dzd0_cL_law_928 di_3 (Nat.zero_lt_succ _) rfl
theorem dL_law_933 : decode cL_law 933 = .ok (.iconst 1, 1) := dz1 (k := 5) (m := 1) dzd0_cL_law_928 di_10 (Nat.zero_lt_succ _) rfl
theorem dL_law_934 : decode cL_law 934 = .ok (.iadd, 1) := dz1 (k := 6) (m := 1) dzd0_cL_law_928 di_24 (Nat.zero_lt_succ _) rfl
theorem dL_law_935 : decode cL_law 935 = .ok (.iaload, 1) := dz1 (k := 7) (m := 1) dzd0_cL_law_928 di_30 (Nat.zero_lt_succ _) rfl
theorem dL_law_936 : decode cL_law 936 = .ok (.aload_n 0, 1) := dz1 (k := 8) (m := 1) dzd0_cL_law_928 di_0 (Nat.zero_lt_succ _) rfl
theorem dL_law_937 : decode cL_law 937 = .ok (.iload_n 3, 1) := dz1 (k := 9) (m := 1) dzd0_cL_law_928 di_3 (Nat.zero_lt_succ _) rfl
theorem dL_law_938 : decode cL_law 938 = .ok (.iconst 2, 1) := dz1 (k := 10) (m := 1) dzd0_cL_law_928 di_6 (Nat.zero_lt_succ _) rfl
theorem dL_law_939 : decode cL_law 939 = .ok (.iadd, 1) := dz1 (k := 11) (m := 1) dzd0_cL_law_928 di_24 (Nat.zero_lt_succ _) rfl
theorem dL_law_940 : decode cL_law 940 = .ok (.iaload, 1) := dz1 (k := 12) (m := 1) dzd0_cL_law_928 di_30 (Nat.zero_lt_succ _) rfl
theorem dL_law_941 : decode cL_law 941 = .ok (.invokevirtual 114, 3) := dz1 (k := 13) (m := 3) dzd0_cL_law_928 di_785 (Nat.zero_lt_succ _) rfl
theorem dL_law_944 : decode cL_law 944 = .ok (.pop, 1) := dz1 (k := 16) (m := 1) dzd0_cL_law_928 di_331 (Nat.zero_lt_succ _) rfl
theorem dL_law_945 : decode cL_law 945 = .ok (.goto 323, 3) := dz1 (k := 17) (m := 3) dzd0_cL_law_928 di_786 (Nat.zero_lt_succ _) rfl
theorem dL_law_948 : decode cL_law 948 = .ok (.aload_n 1, 1) := dz1 (k := 20) (m := 1) dzd0_cL_law_928 di_26 (Nat.zero_lt_succ _) rfl
theorem dL_law_949 : decode cL_law 949 = .ok (.aload_n 0, 1) := dz1 (k := 21) (m := 1) dzd0_cL_law_928 di_0 (Nat.zero_lt_succ _) rfl
theorem dL_law_950 : decode cL_law 950 = .ok (.iload_n 3, 1) := dz1 (k := 22) (m := 1) dzd0_cL_law_928 di_3 (Nat.zero_lt_succ _) rfl
theorem dL_law_951 : decode cL_law 951 = .ok (.iconst 1, 1) := dz1 (k := 23) (m := 1) dzd0_cL_law_928 di_10 (Nat.zero_lt_succ _) rfl
theorem dL_law_952 : decode cL_law 952 = .ok (.iadd, 1) := dz1 (k := 24) (m := 1) dzd0_cL_law_928 di_24 (Nat.zero_lt_succ _) rfl
theorem dL_law_953 : decode cL_law 953 = .ok (.iaload, 1) := dz1 (k := 25) (m := 1) dzd0_cL_law_928 di_30 (Nat.zero_lt_succ _) rfl
theorem dL_law_954 : decode cL_law 954 = .ok (.aload_n 0, 1) := dz1 (k := 26) (m := 1) dzd0_cL_law_928 di_0 (Nat.zero_lt_succ _) rfl
theorem dL_law_955 : decode cL_law 955 = .ok (.iload_n 3, 1) := dz1 (k := 27) (m := 1) dzd0_cL_law_928 di_3 (Nat.zero_lt_succ _) rfl
theorem dL_law_956 : decode cL_law 956 = .ok (.iconst 2, 1) := dz1 (k := 28) (m := 1) dzd0_cL_law_928 di_6 (Nat.zero_lt_succ _) rfl
theorem dL_law_957 : decode cL_law 957 = .ok (.iadd, 1) := dz1 (k := 29) (m := 1) dzd0_cL_law_928 di_24 (Nat.zero_lt_succ _) rfl
theorem dL_law_958 : decode cL_law 958 = .ok (.iaload, 1) := dz1 (k := 30) (m := 1) dzd0_cL_law_928 di_30 (Nat.zero_lt_succ _) rfl
theorem dL_law_959 : decode cL_law 959 = .ok (.invokevirtual 115, 3) := dz1 (k := 31) (m := 3) dzd0_cL_law_928 di_256 (Nat.zero_lt_succ _) rfl
set_option maxRecDepth 100000 in
theorem dzd0_cL_law_960 : DzLies cL_law (.mk ⟨[0x00, 0x73, 0x57, 0x2c, 0x2a, 0x1d, 0x04, 0x60, 0x2e, 0x2a, 0x1d, 0x05, 0x60, 0x2e, 0xb6, 0x00, 0x76, 0x57, 0xa7, 0x01, 0x22, 0x2b, 0x2a, 0x1d, 0x04, 0x60, 0x2e, 0x2a, 0x1d, 0x05, 0x60, 0x2e]⟩) 960 := dz_lies (m := 32) (Nat.zero_lt_succ _) rfl
theorem dL_law_962 : decode cL_law 962 = .ok (.pop, 1) := dz1 (k := 2) (m := 1) dzd0_cL_law_960 di_331 (Nat.zero_lt_succ _) rfl
theorem dL_law_963 : decode cL_law 963 = .ok (.aload_n 2, 1) := dz1 (k := 3) (m := 1) dzd0_cL_law_960 di_493 (Nat.zero_lt_succ _) rfl
theorem dL_law_964 : decode cL_law 964 = .ok (.aload_n 0, 1) := dz1 (k := 4) (m := 1) dzd0_cL_law_960 di_0 (Nat.zero_lt_succ _) rfl
theorem dL_law_965 : decode cL_law 965 = .ok (.iload_n 3, 1) := dz1 (k := 5) (m := 1) dzd0_cL_law_960 di_3 (Nat.zero_lt_succ _) rfl
theorem dL_law_966 : decode cL_law 966 = .ok (.iconst 1, 1) := dz1 (k := 6) (m := 1) dzd0_cL_law_960 di_10 (Nat.zero_lt_succ _) rfl
theorem dL_law_967 : decode cL_law 967 = .ok (.iadd, 1) := dz1 (k := 7) (m := 1) dzd0_cL_law_960 di_24 (Nat.zero_lt_succ _) rfl
theorem dL_law_968 : decode cL_law 968 = .ok (.iaload, 1) := dz1 (k := 8) (m := 1) dzd0_cL_law_960 di_30 (Nat.zero_lt_succ _) rfl
theorem dL_law_969 : decode cL_law 969 = .ok (.aload_n 0, 1) := dz1 (k := 9) (m := 1) dzd0_cL_law_960 di_0 (Nat.zero_lt_succ _) rfl
theorem dL_law_970 : decode cL_law 970 = .ok (.iload_n 3, 1) := dz1 (k := 10) (m := 1) dzd0_cL_law_960 di_3 (Nat.zero_lt_succ _) rfl
theorem dL_law_971 : decode cL_law 971 = .ok (.iconst 2, 1) := dz1 (k := 11) (m := 1) dzd0_cL_law_960 di_6 (Nat.zero_lt_succ _) rfl
theorem dL_law_972 : decode cL_law 972 = .ok (.iadd, 1) := dz1 (k := 12) (m := 1) dzd0_cL_law_960 di_24 (Nat.zero_lt_succ _) rfl
theorem dL_law_973 : decode cL_law 973 = .ok (.iaload, 1) := dz1 (k := 13) (m := 1) dzd0_cL_law_960 di_30 (Nat.zero_lt_succ _) rfl
theorem dL_law_974 : decode cL_law 974 = .ok (.invokevirtual 118, 3) := dz1 (k := 14) (m := 3) dzd0_cL_law_960 di_787 (Nat.zero_lt_succ _) rfl
theorem dL_law_977 : decode cL_law 977 = .ok (.pop, 1) := dz1 (k := 17) (m := 1) dzd0_cL_law_960 di_331 (Nat.zero_lt_succ _) rfl
theorem dL_law_978 : decode cL_law 978 = .ok (.goto 290, 3) := dz1 (k := 18) (m := 3) dzd0_cL_law_960 di_788 (Nat.zero_lt_succ _) rfl
theorem dL_law_981 : decode cL_law 981 = .ok (.aload_n 1, 1) := dz1 (k := 21) (m := 1) dzd0_cL_law_960 di_26 (Nat.zero_lt_succ _) rfl
theorem dL_law_982 : decode cL_law 982 = .ok (.aload_n 0, 1) := dz1 (k := 22) (m := 1) dzd0_cL_law_960 di_0 (Nat.zero_lt_succ _) rfl
theorem dL_law_983 : decode cL_law 983 = .ok (.iload_n 3, 1) := dz1 (k := 23) (m := 1) dzd0_cL_law_960 di_3 (Nat.zero_lt_succ _) rfl
theorem dL_law_984 : decode cL_law 984 = .ok (.iconst 1, 1) := dz1 (k := 24) (m := 1) dzd0_cL_law_960 di_10 (Nat.zero_lt_succ _) rfl
theorem dL_law_985 : decode cL_law 985 = .ok (.iadd, 1) := dz1 (k := 25) (m := 1) dzd0_cL_law_960 di_24 (Nat.zero_lt_succ _) rfl
theorem dL_law_986 : decode cL_law 986 = .ok (.iaload, 1) := dz1 (k := 26) (m := 1) dzd0_cL_law_960 di_30 (Nat.zero_lt_succ _) rfl
theorem dL_law_987 : decode cL_law 987 = .ok (.aload_n 0, 1) := dz1 (k := 27) (m := 1) dzd0_cL_law_960 di_0 (Nat.zero_lt_succ _) rfl
theorem dL_law_988 : decode cL_law 988 = .ok (.iload_n 3, 1) := dz1 (k := 28) (m := 1) dzd0_cL_law_960 di_3 (Nat.zero_lt_succ _) rfl
theorem dL_law_989 : decode cL_law 989 = .ok (.iconst 2, 1) := dz1 (k := 29) (m := 1) dzd0_cL_law_960 di_6 (Nat.zero_lt_succ _) rfl
theorem dL_law_990 : decode cL_law 990 = .ok (.iadd, 1) := dz1 (k := 30) (m := 1) dzd0_cL_law_960 di_24 (Nat.zero_lt_succ _) rfl
theorem dL_law_991 : decode cL_law 991 = .ok (.iaload, 1) := dz1 (k := 31) (m := 1) dzd0_cL_law_960 di_30 (Nat.zero_lt_succ _) rfl
set_option maxRecDepth 100000 in
theorem dzd0_cL_law_992 : DzLies cL_law (.mk ⟨[0xb6, 0x00, 0x77, 0x57, 0x2c, 0x2a, 0x1d, 0x04, 0x60, 0x2e, 0x2a, 0x1d, 0x05, 0x60, 0x2e, 0xb6, 0x00, 0x7a, 0x57, 0xa7, 0x01, 0x01, 0x2b, 0x2a, 0x1d, 0x04, 0x60, 0x2e, 0x2a, 0x1d, 0x05, 0x60]⟩) 992 := dz_lies (m := 32) (Nat.zero_lt_succ _) rfl
theorem dL_law_992 : decode cL_law 992 = .ok (.invokevirtual 119, 3) := dz1 (k := 0) (m := 3) dzd0_cL_law_992 di_789 (Nat.zero_lt_succ _) rfl
theorem dL_law_995 : decode cL_law 995 = .ok (.pop, 1) := dz1 (k := 3) (m := 1) dzd0_cL_law_992 di_331 (Nat.zero_lt_succ _) rfl
theorem dL_law_996 : decode cL_law 996 = .ok (.aload_n 2, 1) := dz1 (k := 4) (m := 1) dzd0_cL_law_992 di_493 (Nat.zero_lt_succ _) rfl
theorem dL_law_997 : decode cL_law 997 = .ok (.aload_n 0, 1) := dz1 (k := 5) (m := 1) dzd0_cL_law_992 di_0 (Nat.zero_lt_succ _) rfl
theorem dL_law_998 : decode cL_law 998 = .ok (.iload_n 3, 1) := dz1 (k := 6) (m := 1) dzd0_cL_law_992 di_3 (Nat.zero_lt_succ _) rfl
theorem dL_law_999 : decode cL_law 999 = .ok (.iconst 1, 1) := dz1 (k := 7) (m := 1) dzd0_cL_law_992 di_10 (Nat.zero_lt_succ _) rfl
theorem dL_law_1000 : decode cL_law 1000 = .ok (.iadd, 1) := dz1 (k := 8) (m := 1) dzd0_cL_law_992 di_24 (Nat.zero_lt_succ _) rfl
theorem dL_law_1001 : decode cL_law 1001 = .ok (.iaload, 1) := dz1 (k := 9) (m := 1) dzd0_cL_law_992 di_30 (Nat.zero_lt_succ _) rfl
theorem dL_law_1002 : decode cL_law 1002 = .ok (.aload_n 0, 1) := dz1 (k := 10) (m := 1) dzd0_cL_law_992 di_0 (Nat.zero_lt_succ _) rfl
theorem dL_law_1003 : decode cL_law 1003 = .ok (.iload_n 3, 1) := dz1 (k := 11) (m := 1) dzd0_cL_law_992 di_3 (Nat.zero_lt_succ _) rfl
theorem dL_law_1004 : decode cL_law 1004 = .ok (.iconst 2, 1) := dz1 (k := 12) (m := 1) dzd0_cL_law_992 di_6 (Nat.zero_lt_succ _) rfl
theorem dL_law_1005 : decode cL_law 1005 = .ok (.iadd, 1) := dz1 (k := 13) (m := 1) dzd0_cL_law_992 di_24 (Nat.zero_lt_succ _) rfl
theorem dL_law_1006 : decode cL_law 1006 = .ok (.iaload, 1) := dz1 (k := 14) (m := 1) dzd0_cL_law_992 di_30 (Nat.zero_lt_succ _) rfl
theorem dL_law_1007 : decode cL_law 1007 = .ok (.invokevirtual 122, 3) := dz1 (k := 15) (m := 3) dzd0_cL_law_992 di_790 (Nat.zero_lt_succ _) rfl
theorem dL_law_1010 : decode cL_law 1010 = .ok (.pop, 1) := dz1 (k := 18) (m := 1) dzd0_cL_law_992 di_331 (Nat.zero_lt_succ _) rfl
theorem dL_law_1011 : decode cL_law 1011 = .ok (.goto 257, 3) := dz1 (k := 19) (m := 3) dzd0_cL_law_992 di_791 (Nat.zero_lt_succ _) rfl
theorem dL_law_1014 : decode cL_law 1014 = .ok (.aload_n 1, 1) := dz1 (k := 22) (m := 1) dzd0_cL_law_992 di_26 (Nat.zero_lt_succ _) rfl
theorem dL_law_1015 : decode cL_law 1015 = .ok (.aload_n 0, 1) := dz1 (k := 23) (m := 1) dzd0_cL_law_992 di_0 (Nat.zero_lt_succ _) rfl
theorem dL_law_1016 : decode cL_law 1016 = .ok (.iload_n 3, 1) := dz1 (k := 24) (m := 1) dzd0_cL_law_992 di_3 (Nat.zero_lt_succ _) rfl
theorem dL_law_1017 : decode cL_law 1017 = .ok (.iconst 1, 1) := dz1 (k := 25) (m := 1) dzd0_cL_law_992 di_10 (Nat.zero_lt_succ _) rfl
theorem dL_law_1018 : decode cL_law 1018 = .ok (.iadd, 1) := dz1 (k := 26) (m := 1) dzd0_cL_law_992 di_24 (Nat.zero_lt_succ _) rfl
theorem dL_law_1019 : decode cL_law 1019 = .ok (.iaload, 1) := dz1 (k := 27) (m := 1) dzd0_cL_law_992 di_30 (Nat.zero_lt_succ _) rfl
theorem dL_law_1020 : decode cL_law 1020 = .ok (.aload_n 0, 1) := dz1 (k := 28) (m := 1) dzd0_cL_law_992 di_0 (Nat.zero_lt_succ _) rfl
theorem dL_law_1021 : decode cL_law 1021 = .ok (.iload_n 3, 1) := dz1 (k := 29) (m := 1) dzd0_cL_law_992 di_3 (Nat.zero_lt_succ _) rfl
theorem dL_law_1022 : decode cL_law 1022 = .ok (.iconst 2, 1) := dz1 (k := 30) (m := 1) dzd0_cL_law_992 di_6 (Nat.zero_lt_succ _) rfl
theorem dL_law_1023 : decode cL_law 1023 = .ok (.iadd, 1) := dz1 (k := 31) (m := 1) dzd0_cL_law_992 di_24 (Nat.zero_lt_succ _) rfl
set_option maxRecDepth 100000 in
theorem dzd0_cL_law_1024 : DzLies cL_law (.mk ⟨[0x2e, 0x2a, 0x1d, 0x06, 0x60, 0x2e, 0xb6, 0x00, 0x7b, 0x57, 0x2c, 0x2a, 0x1d, 0x04, 0x60, 0x2e, 0x2a, 0x1d, 0x05, 0x60, 0x2e, 0x2a, 0x1d, 0x06, 0x60, 0x2e, 0xb6, 0x00, 0x7e, 0x57, 0xa7, 0x00, 0xd6]⟩) 1024 := dz_lies (m := 33) (Nat.zero_lt_succ _) rfl
theorem dL_law_1024 : decode cL_law 1024 = .ok (.iaload, 1) := dz1 (k := 0) (m := 1) dzd0_cL_law_1024 di_30 (Nat.zero_lt_succ _) rfl
theorem dL_law_1025 : decode cL_law 1025 = .ok (.aload_n 0, 1) := dz1 (k := 1) (m := 1) dzd0_cL_law_1024 di_0 (Nat.zero_lt_succ _) rfl
theorem dL_law_1026 : decode cL_law 1026 = .ok (.iload_n 3, 1) := dz1 (k := 2) (m := 1) dzd0_cL_law_1024 di_3 (Nat.zero_lt_succ _) rfl
theorem dL_law_1027 : decode cL_law 1027 = .ok (.iconst 3, 1) := dz1 (k := 3) (m := 1) dzd0_cL_law_1024 di_4 (Nat.zero_lt_succ _) rfl
theorem dL_law_1028 : decode cL_law 1028 = .ok (.iadd, 1) := dz1 (k := 4) (m := 1) dzd0_cL_law_1024 di_24 (Nat.zero_lt_succ _) rfl
theorem dL_law_1029 : decode cL_law 1029 = .ok (.iaload, 1) := dz1 (k := 5) (m := 1) dzd0_cL_law_1024 di_30 (Nat.zero_lt_succ _) rfl
theorem dL_law_1030 : decode cL_law 1030 = .ok (.invokevirtual 123, 3) := dz1 (k := 6) (m := 3) dzd0_cL_law_1024 di_792 (Nat.zero_lt_succ _) rfl
theorem dL_law_1033 : decode cL_law 1033 = .ok (.pop, 1) := dz1 (k := 9) (m := 1) dzd0_cL_law_1024 di_331 (Nat.zero_lt_succ _) rfl
theorem dL_law_1034 : decode cL_law 1034 = .ok (.aload_n 2, 1) := dz1 (k := 10) (m := 1) dzd0_cL_law_1024 di_493 (Nat.zero_lt_succ _) rfl
theorem dL_law_1035 : decode cL_law 1035 = .ok (.aload_n 0, 1) := dz1 (k := 11) (m := 1) dzd0_cL_law_1024 di_0 (Nat.zero_lt_succ _) rfl
theorem dL_law_1036 : decode cL_law 1036 = .ok (.iload_n 3, 1) := dz1 (k := 12) (m := 1) dzd0_cL_law_1024 di_3 (Nat.zero_lt_succ _) rfl
theorem dL_law_1037 : decode cL_law 1037 = .ok (.iconst 1, 1) := dz1 (k := 13) (m := 1) dzd0_cL_law_1024 di_10 (Nat.zero_lt_succ _) rfl
theorem dL_law_1038 : decode cL_law 1038 = .ok (.iadd, 1) := dz1 (k := 14) (m := 1) dzd0_cL_law_1024 di_24 (Nat.zero_lt_succ _) rfl
theorem dL_law_1039 : decode cL_law 1039 = .ok (.iaload, 1) := dz1 (k := 15) (m := 1) dzd0_cL_law_1024 di_30 (Nat.zero_lt_succ _) rfl
theorem dL_law_1040 : decode cL_law 1040 = .ok (.aload_n 0, 1) := dz1 (k := 16) (m := 1) dzd0_cL_law_1024 di_0 (Nat.zero_lt_succ _) rfl
theorem dL_law_1041 : decode cL_law 1041 = .ok (.iload_n 3, 1) := dz1 (k := 17) (m := 1) dzd0_cL_law_1024 di_3 (Nat.zero_lt_succ _) rfl
theorem dL_law_1042 : decode cL_law 1042 = .ok (.iconst 2, 1) := dz1 (k := 18) (m := 1) dzd0_cL_law_1024 di_6 (Nat.zero_lt_succ _) rfl
theorem dL_law_1043 : decode cL_law 1043 = .ok (.iadd, 1) := dz1 (k := 19) (m := 1) dzd0_cL_law_1024 di_24 (Nat.zero_lt_succ _) rfl
theorem dL_law_1044 : decode cL_law 1044 = .ok (.iaload, 1) := dz1 (k := 20) (m := 1) dzd0_cL_law_1024 di_30 (Nat.zero_lt_succ _) rfl
theorem dL_law_1045 : decode cL_law 1045 = .ok (.aload_n 0, 1) := dz1 (k := 21) (m := 1) dzd0_cL_law_1024 di_0 (Nat.zero_lt_succ _) rfl
theorem dL_law_1046 : decode cL_law 1046 = .ok (.iload_n 3, 1) := dz1 (k := 22) (m := 1) dzd0_cL_law_1024 di_3 (Nat.zero_lt_succ _) rfl
theorem dL_law_1047 : decode cL_law 1047 = .ok (.iconst 3, 1) := dz1 (k := 23) (m := 1) dzd0_cL_law_1024 di_4 (Nat.zero_lt_succ _) rfl
theorem dL_law_1048 : decode cL_law 1048 = .ok (.iadd, 1) := dz1 (k := 24) (m := 1) dzd0_cL_law_1024 di_24 (Nat.zero_lt_succ _) rfl
theorem dL_law_1049 : decode cL_law 1049 = .ok (.iaload, 1) := dz1 (k := 25) (m := 1) dzd0_cL_law_1024 di_30 (Nat.zero_lt_succ _) rfl
theorem dL_law_1050 : decode cL_law 1050 = .ok (.invokevirtual 126, 3) := dz1 (k := 26) (m := 3) dzd0_cL_law_1024 di_793 (Nat.zero_lt_succ _) rfl
theorem dL_law_1053 : decode cL_law 1053 = .ok (.pop, 1) := dz1 (k := 29) (m := 1) dzd0_cL_law_1024 di_331 (Nat.zero_lt_succ _) rfl
theorem dL_law_1054 : decode cL_law 1054 = .ok (.goto 214, 3) := dz1 (k := 30) (m := 3) dzd0_cL_law_1024 di_794 (Nat.zero_lt_succ _) rfl
set_option maxRecDepth 100000 in
theorem dzd0_cL_law_1056 : DzLies cL_law (.mk ⟨[0xd6, 0x2b, 0x2a, 0x1d, 0x04, 0x60, 0x2e, 0x2a, 0x1d, 0x05, 0x60, 0x2e, 0xb6, 0x00, 0x7f, 0x57, 0x2c, 0x2a, 0x1d, 0x04, 0x60, 0x2e, 0x2a, 0x1d, 0x05, 0x60, 0x2e, 0xb6, 0x00, 0x82, 0x57, 0xa7, 0x00, 0xb5]⟩) 1056 := dz_lies (m := 34) (Nat.zero_lt_succ _) rfl
theorem dL_law_1057 : decode cL_law 1057 = .ok (.aload_n 1, 1) := dz1 (k := 1) (m := 1) dzd0_cL_law_1056 di_26 (Nat.zero_lt_succ _) rfl
theorem dL_law_1058 : decode cL_law 1058 = .ok (.aload_n 0, 1) := dz1 (k := 2) (m := 1) dzd0_cL_law_1056 di_0 (Nat.zero_lt_succ _) rfl
theorem dL_law_1059 : decode cL_law 1059 = .ok (.iload_n 3, 1) := dz1 (k := 3) (m := 1) dzd0_cL_law_1056 di_3 (Nat.zero_lt_succ _) rfl
theorem dL_law_1060 : decode cL_law 1060 = .ok (.iconst 1, 1) := dz1 (k := 4) (m := 1) dzd0_cL_law_1056 di_10 (Nat.zero_lt_succ _) rfl
theorem dL_law_1061 : decode cL_law 1061 = .ok (.iadd, 1) := dz1 (k := 5) (m := 1) dzd0_cL_law_1056 di_24 (Nat.zero_lt_succ _) rfl
theorem dL_law_1062 : decode cL_law 1062 = .ok (.iaload, 1) := dz1 (k := 6) (m := 1) dzd0_cL_law_1056 di_30 (Nat.zero_lt_succ _) rfl
theorem dL_law_1063 : decode cL_law 1063 = .ok (.aload_n 0, 1) := dz1 (k := 7) (m := 1) dzd0_cL_law_1056 di_0 (Nat.zero_lt_succ _) rfl
theorem dL_law_1064 : decode cL_law 1064 = .ok (.iload_n 3, 1) := dz1 (k := 8) (m := 1) dzd0_cL_law_1056 di_3 (Nat.zero_lt_succ _) rfl
theorem dL_law_1065 : decode cL_law 1065 = .ok (.iconst 2, 1) := dz1 (k := 9) (m := 1) dzd0_cL_law_1056 di_6 (Nat.zero_lt_succ _) rfl
theorem dL_law_1066 : decode cL_law 1066 = .ok (.iadd, 1) := dz1 (k := 10) (m := 1) dzd0_cL_law_1056 di_24 (Nat.zero_lt_succ _) rfl
theorem dL_law_1067 : decode cL_law 1067 = .ok (.iaload, 1) := dz1 (k := 11) (m := 1) dzd0_cL_law_1056 di_30 (Nat.zero_lt_succ _) rfl
theorem dL_law_1068 : decode cL_law 1068 = .ok (.invokevirtual 127, 3) := dz1 (k := 12) (m := 3) dzd0_cL_law_1056 di_795 (Nat.zero_lt_succ _) rfl
theorem dL_law_1071 : decode cL_law 1071 = .ok (.pop, 1) := dz1 (k := 15) (m := 1) dzd0_cL_law_1056 di_331 (Nat.zero_lt_succ _) rfl
theorem dL_law_1072 : decode cL_law 1072 = .ok (.aload_n 2, 1) := dz1 (k := 16) (m := 1) dzd0_cL_law_1056 di_493 (Nat.zero_lt_succ _) rfl
theorem dL_law_1073 : decode cL_law 1073 = .ok (.aload_n 0, 1) := dz1 (k := 17) (m := 1) dzd0_cL_law_1056 di_0 (Nat.zero_lt_succ _) rfl
theorem dL_law_1074 : decode cL_law 1074 = .ok (.iload_n 3, 1) := dz1 (k := 18) (m := 1) dzd0_cL_law_1056 di_3 (Nat.zero_lt_succ _) rfl
theorem dL_law_1075 : decode cL_law 1075 = .ok (.iconst 1, 1) := dz1 (k := 19) (m := 1) dzd0_cL_law_1056 di_10 (Nat.zero_lt_succ _) rfl
theorem dL_law_1076 : decode cL_law 1076 = .ok (.iadd, 1) := dz1 (k := 20) (m := 1) dzd0_cL_law_1056 di_24 (Nat.zero_lt_succ _) rfl
theorem dL_law_1077 : decode cL_law 1077 = .ok (.iaload, 1) := dz1 (k := 21) (m := 1) dzd0_cL_law_1056 di_30 (Nat.zero_lt_succ _) rfl
theorem dL_law_1078 : decode cL_law 1078 = .ok (.aload_n 0, 1) := dz1 (k := 22) (m := 1) dzd0_cL_law_1056 di_0 (Nat.zero_lt_succ _) rfl
theorem dL_law_1079 : decode cL_law 1079 = .ok (.iload_n 3, 1) := dz1 (k := 23) (m := 1) dzd0_cL_law_1056 di_3 (Nat.zero_lt_succ _) rfl
theorem dL_law_1080 : decode cL_law 1080 = .ok (.iconst 2, 1) := dz1 (k := 24) (m := 1) dzd0_cL_law_1056 di_6 (Nat.zero_lt_succ _) rfl
theorem dL_law_1081 : decode cL_law 1081 = .ok (.iadd, 1) := dz1 (k := 25) (m := 1) dzd0_cL_law_1056 di_24 (Nat.zero_lt_succ _) rfl
theorem dL_law_1082 : decode cL_law 1082 = .ok (.iaload, 1) := dz1 (k := 26) (m := 1) dzd0_cL_law_1056 di_30 (Nat.zero_lt_succ _) rfl
theorem dL_law_1083 : decode cL_law 1083 = .ok (.invokevirtual 130, 3) := dz1 (k := 27) (m := 3) dzd0_cL_law_1056 di_796 (Nat.zero_lt_succ _) rfl
theorem dL_law_1086 : decode cL_law 1086 = .ok (.pop, 1) := dz1 (k := 30) (m := 1) dzd0_cL_law_1056 di_331 (Nat.zero_lt_succ _) rfl
theorem dL_law_1087 : decode cL_law 1087 = .ok (.goto 181, 3) := dz1 (k := 31) (m := 3) dzd0_cL_law_1056 di_797 (Nat.zero_lt_succ _) rfl
set_option maxRecDepth 100000 in
theorem dzd0_cL_law_1088 : DzLies cL_law (.mk ⟨[0x00, 0xb5, 0x2b, 0x2a, 0x1d, 0x04, 0x60, 0x2e, 0x2a, 0x1d, 0x05, 0x60, 0x2e, 0xb6, 0x00, 0x83, 0x57, 0x2c, 0x2a, 0x1d, 0x04, 0x60, 0x2e, 0x2a, 0x1d, 0x05, 0x60, 0x2e, 0xb6, 0x00, 0x86, 0x57]⟩) 1088 := dz_lies (m := 32) (Nat.zero_lt_succ _) rfl
theorem dL_law_1090 : decode cL_law 1090 = .ok (.aload_n 1, 1) := dz1 (k := 2) (m := 1) dzd0_cL_law_1088 di_26 (Nat.zero_lt_succ _) rfl
theorem dL_law_1091 : decode cL_law 1091 = .ok (.aload_n 0, 1) := dz1 (k := 3) (m := 1) dzd0_cL_law_1088 di_0 (Nat.zero_lt_succ _) rfl
theorem dL_law_1092 : decode cL_law 1092 = .ok (.iload_n 3, 1) := dz1 (k := 4) (m := 1) dzd0_cL_law_1088 di_3 (Nat.zero_lt_succ _) rfl
theorem dL_law_1093 : decode cL_law 1093 = .ok (.iconst 1, 1) := dz1 (k := 5) (m := 1) dzd0_cL_law_1088 di_10 (Nat.zero_lt_succ _) rfl
theorem dL_law_1094 : decode cL_law 1094 = .ok (.iadd, 1) := dz1 (k := 6) (m := 1) dzd0_cL_law_1088 di_24 (Nat.zero_lt_succ _) rfl
theorem dL_law_1095 : decode cL_law 1095 = .ok (.iaload, 1) := dz1 (k := 7) (m := 1) dzd0_cL_law_1088 di_30 (Nat.zero_lt_succ _) rfl
theorem dL_law_1096 : decode cL_law 1096 = .ok (.aload_n 0, 1) := dz1 (k := 8) (m := 1) dzd0_cL_law_1088 di_0 (Nat.zero_lt_succ _) rfl
theorem dL_law_1097 : decode cL_law 1097 = .ok (.iload_n 3, 1) := dz1 (k := 9) (m := 1) dzd0_cL_law_1088 di_3 (Nat.zero_lt_succ _) rfl
theorem dL_law_1098 : decode cL_law 1098 = .ok (.iconst 2, 1) := dz1 (k := 10) (m := 1) dzd0_cL_law_1088 di_6 (Nat.zero_lt_succ _) rfl
theorem dL_law_1099 : decode cL_law 1099 = .ok (.iadd, 1) := dz1 (k := 11) (m := 1) dzd0_cL_law_1088 di_24 (Nat.zero_lt_succ _) rfl
theorem dL_law_1100 : decode cL_law 1100 = .ok (.iaload, 1) := dz1 (k := 12) (m := 1) dzd0_cL_law_1088 di_30 (Nat.zero_lt_succ _) rfl
theorem dL_law_1101 : decode cL_law 1101 = .ok (.invokevirtual 131, 3) := dz1 (k := 13) (m := 3) dzd0_cL_law_1088 di_798 (Nat.zero_lt_succ _) rfl
theorem dL_law_1104 : decode cL_law 1104 = .ok (.pop, 1) := dz1 (k := 16) (m := 1) dzd0_cL_law_1088 di_331 (Nat.zero_lt_succ _) rfl
theorem dL_law_1105 : decode cL_law 1105 = .ok (.aload_n 2, 1) := dz1 (k := 17) (m := 1) dzd0_cL_law_1088 di_493 (Nat.zero_lt_succ _) rfl
theorem dL_law_1106 : decode cL_law 1106 = .ok (.aload_n 0, 1) := dz1 (k := 18) (m := 1) dzd0_cL_law_1088 di_0 (Nat.zero_lt_succ _) rfl
theorem dL_law_1107 : decode cL_law 1107 = .ok (.iload_n 3, 1) := dz1 (k := 19) (m := 1) dzd0_cL_law_1088 di_3 (Nat.zero_lt_succ _) rfl
theorem dL_law_1108 : decode cL_law 1108 = .ok (.iconst 1, 1) := dz1 (k := 20) (m := 1) dzd0_cL_law_1088 di_10 (Nat.zero_lt_succ _) rfl
theorem dL_law_1109 : decode cL_law 1109 = .ok (.iadd, 1) := dz1 (k := 21) (m := 1) dzd0_cL_law_1088 di_24 (Nat.zero_lt_succ _) rfl
theorem dL_law_1110 : decode cL_law 1110 = .ok (.iaload, 1) := dz1 (k := 22) (m := 1) dzd0_cL_law_1088 di_30 (Nat.zero_lt_succ _) rfl
theorem dL_law_1111 : decode cL_law 1111 = .ok (.aload_n 0, 1) := dz1 (k := 23) (m := 1) dzd0_cL_law_1088 di_0 (Nat.zero_lt_succ _) rfl
theorem dL_law_1112 : decode cL_law 1112 = .ok (.iload_n 3, 1) := dz1 (k := 24) (m := 1) dzd0_cL_law_1088 di_3 (Nat.zero_lt_succ _) rfl
theorem dL_law_1113 : decode cL_law 1113 = .ok (.iconst 2, 1) := dz1 (k := 25) (m := 1) dzd0_cL_law_1088 di_6 (Nat.zero_lt_succ _) rfl
theorem dL_law_1114 : decode cL_law 1114 = .ok (.iadd, 1) := dz1 (k := 26) (m := 1) dzd0_cL_law_1088 di_24 (Nat.zero_lt_succ _) rfl
theorem dL_law_1115 : decode cL_law 1115 = .ok (.iaload, 1) := dz1 (k := 27) (m := 1) dzd0_cL_law_1088 di_30 (Nat.zero_lt_succ _) rfl
theorem dL_law_1116 : decode cL_law 1116 = .ok (.invokevirtual 134, 3) := dz1 (k := 28) (m := 3) dzd0_cL_law_1088 di_799 (Nat.zero_lt_succ _) rfl
theorem dL_law_1119 : decode cL_law 1119 = .ok (.pop, 1) := dz1 (k := 31) (m := 1) dzd0_cL_law_1088 di_331 (Nat.zero_lt_succ _) rfl
set_option maxRecDepth 100000 in
theorem dzd0_cL_law_1120 : DzLies cL_law (.mk ⟨[0xa7, 0x00, 0x94, 0x2b, 0x2a, 0x1d, 0x04, 0x60, 0x2e, 0x2a, 0x1d, 0x05, 0x60, 0x2e, 0xb6, 0x00, 0x87, 0x57, 0x2c, 0x2a, 0x1d, 0x04, 0x60, 0x2e, 0x2a, 0x1d, 0x05, 0x60, 0x2e, 0xb6, 0x00, 0x8a]⟩) 1120 := dz_lies (m := 32) (Nat.zero_lt_succ _) rfl
theorem dL_law_1120 : decode cL_law 1120 = .ok (.goto 148, 3) := dz1 (k := 0) (m := 3) dzd0_cL_law_1120 di_800 (Nat.zero_lt_succ _) rfl
theorem dL_law_1123 : decode cL_law 1123 = .ok (.aload_n 1, 1) := dz1 (k := 3) (m := 1) dzd0_cL_law_1120 di_26 (Nat.zero_lt_succ _) rfl
theorem dL_law_1124 : decode cL_law 1124 = .ok (.aload_n 0, 1) := dz1 (k := 4) (m := 1) dzd0_cL_law_1120 di_0 (Nat.zero_lt_succ _) rfl
theorem dL_law_1125 : decode cL_law 1125 = .ok (.iload_n 3, 1) := dz1 (k := 5) (m := 1) dzd0_cL_law_1120 di_3 (Nat.zero_lt_succ _) rfl
theorem dL_law_1126 : decode cL_law 1126 = .ok (.iconst 1, 1) := dz1 (k := 6) (m := 1) dzd0_cL_law_1120 di_10 (Nat.zero_lt_succ _) rfl
theorem dL_law_1127 : decode cL_law 1127 = .ok (.iadd, 1) := dz1 (k := 7) (m := 1) dzd0_cL_law_1120 di_24 (Nat.zero_lt_succ _) rfl
theorem dL_law_1128 : decode cL_law 1128 = .ok (.iaload, 1) := dz1 (k := 8) (m := 1) dzd0_cL_law_1120 di_30 (Nat.zero_lt_succ _) rfl
theorem dL_law_1129 : decode cL_law 1129 = .ok (.aload_n 0, 1) := dz1 (k := 9) (m := 1) dzd0_cL_law_1120 di_0 (Nat.zero_lt_succ _) rfl
theorem dL_law_1130 : decode cL_law 1130 = .ok (.iload_n 3, 1) := dz1 (k := 10) (m := 1) dzd0_cL_law_1120 di_3 (Nat.zero_lt_succ _) rfl
theorem dL_law_1131 : decode cL_law 1131 = .ok (.iconst 2, 1) := dz1 (k := 11) (m := 1) dzd0_cL_law_1120 di_6 (Nat.zero_lt_succ _) rfl
theorem dL_law_1132 : decode cL_law 1132 = .ok (.iadd, 1) := dz1 (k := 12) (m := 1) dzd0_cL_law_1120 di_24 (Nat.zero_lt_succ _) rfl
theorem dL_law_1133 : decode cL_law 1133 = .ok (.iaload, 1) := dz1 (k := 13) (m := 1) dzd0_cL_law_1120 di_30 (Nat.zero_lt_succ _) rfl
theorem dL_law_1134 : decode cL_law 1134 = .ok (.invokevirtual 135, 3) := dz1 (k := 14) (m := 3) dzd0_cL_law_1120 di_801 (Nat.zero_lt_succ _) rfl
theorem dL_law_1137 : decode cL_law 1137 = .ok (.pop, 1) := dz1 (k := 17) (m := 1) dzd0_cL_law_1120 di_331 (Nat.zero_lt_succ _) rfl
theorem dL_law_1138 : decode cL_law 1138 = .ok (.aload_n 2, 1) := dz1 (k := 18) (m := 1) dzd0_cL_law_1120 di_493 (Nat.zero_lt_succ _) rfl
theorem dL_law_1139 : decode cL_law 1139 = .ok (.aload_n 0, 1) := dz1 (k := 19) (m := 1) dzd0_cL_law_1120 di_0 (Nat.zero_lt_succ _) rfl
theorem dL_law_1140 : decode cL_law 1140 = .ok (.iload_n 3, 1) := dz1 (k := 20) (m := 1) dzd0_cL_law_1120 di_3 (Nat.zero_lt_succ _) rfl
theorem dL_law_1141 : decode cL_law 1141 = .ok (.iconst 1, 1) := dz1 (k := 21) (m := 1) dzd0_cL_law_1120 di_10 (Nat.zero_lt_succ _) rfl
theorem dL_law_1142 : decode cL_law 1142 = .ok (.iadd, 1) := dz1 (k := 22) (m := 1) dzd0_cL_law_1120 di_24 (Nat.zero_lt_succ _) rfl
theorem dL_law_1143 : decode cL_law 1143 = .ok (.iaload, 1) := dz1 (k := 23) (m := 1) dzd0_cL_law_1120 di_30 (Nat.zero_lt_succ _) rfl
theorem dL_law_1144 : decode cL_law 1144 = .ok (.aload_n 0, 1) := dz1 (k := 24) (m := 1) dzd0_cL_law_1120 di_0 (Nat.zero_lt_succ _) rfl
theorem dL_law_1145 : decode cL_law 1145 = .ok (.iload_n 3, 1) := dz1 (k := 25) (m := 1) dzd0_cL_law_1120 di_3 (Nat.zero_lt_succ _) rfl
theorem dL_law_1146 : decode cL_law 1146 = .ok (.iconst 2, 1) := dz1 (k := 26) (m := 1) dzd0_cL_law_1120 di_6 (Nat.zero_lt_succ _) rfl
theorem dL_law_1147 : decode cL_law 1147 = .ok (.iadd, 1) := dz1 (k := 27) (m := 1) dzd0_cL_law_1120 di_24 (Nat.zero_lt_succ _) rfl
theorem dL_law_1148 : decode cL_law 1148 = .ok (.iaload, 1) := dz1 (k := 28) (m := 1) dzd0_cL_law_1120 di_30 (Nat.zero_lt_succ _) rfl
theorem dL_law_1149 : decode cL_law 1149 = .ok (.invokevirtual 138, 3) := dz1 (k := 29) (m := 3) dzd0_cL_law_1120 di_271 (Nat.zero_lt_succ _) rfl
set_option maxRecDepth 100000 in
theorem dzd0_cL_law_1152 : DzLies cL_law (.mk ⟨[0x57, 0xa7, 0x00, 0x73, 0x2b, 0xb6, 0x00, 0x8b, 0x57, 0x2c, 0xb6, 0x00, 0x8e, 0x57, 0xa7, 0x00, 0x66, 0x2b, 0xb6, 0x00, 0x8f, 0x58, 0x2c, 0xb6, 0x00, 0x93, 0x58, 0xa7, 0x00, 0x59, 0x2b, 0xb6, 0x00, 0x94]⟩) 1152 := dz_lies (m := 34) (Nat.zero_lt_succ _) rfl
theorem dL_law_1152 : decode cL_law 1152 = .ok (.pop, 1) := dz1 (k := 0) (m := 1) dzd0_cL_law_1152 di_331 (Nat.zero_lt_succ _) rfl
theorem dL_law_1153 : decode cL_law 1153 = .ok (.goto 115, 3) := dz1 (k := 1) (m := 3) dzd0_cL_law_1152 di_802 (Nat.zero_lt_succ _) rfl
theorem dL_law_1156 : decode cL_law 1156 = .ok (.aload_n 1, 1) := dz1 (k := 4) (m := 1) dzd0_cL_law_1152 di_26 (Nat.zero_lt_succ _) rfl
theorem dL_law_1157 : decode cL_law 1157 = .ok (.invokevirtual 139, 3) := dz1 (k := 5) (m := 3) dzd0_cL_law_1152 di_803 (Nat.zero_lt_succ _) rfl
theorem dL_law_1160 : decode cL_law 1160 = .ok (.pop, 1) := dz1 (k := 8) (m := 1) dzd0_cL_law_1152 di_331 (Nat.zero_lt_succ _) rfl
theorem dL_law_1161 : decode cL_law 1161 = .ok (.aload_n 2, 1) := dz1 (k := 9) (m := 1) dzd0_cL_law_1152 di_493 (Nat.zero_lt_succ _) rfl
theorem dL_law_1162 : decode cL_law 1162 = .ok (.invokevirtual 142, 3) := dz1 (k := 10) (m := 3) dzd0_cL_law_1152 di_804 (Nat.zero_lt_succ _) rfl
theorem dL_law_1165 : decode cL_law 1165 = .ok (.pop, 1) := dz1 (k := 13) (m := 1) dzd0_cL_law_1152 di_331 (Nat.zero_lt_succ _) rfl
theorem dL_law_1166 : decode cL_law 1166 = .ok (.goto 102, 3) := dz1 (k := 14) (m := 3) dzd0_cL_law_1152 di_805 (Nat.zero_lt_succ _) rfl
theorem dL_law_1169 : decode cL_law 1169 = .ok (.aload_n 1, 1) := dz1 (k := 17) (m := 1) dzd0_cL_law_1152 di_26 (Nat.zero_lt_succ _) rfl
theorem dL_law_1170 : decode cL_law 1170 = .ok (.invokevirtual 143, 3) := dz1 (k := 18) (m := 3) dzd0_cL_law_1152 di_806 (Nat.zero_lt_succ _) rfl
theorem dL_law_1173 : decode cL_law 1173 = .ok (.pop2, 1) := dz1 (k := 21) (m := 1) dzd0_cL_law_1152 di_807 (Nat.zero_lt_succ _) rfl
theorem dL_law_1174 : decode cL_law 1174 = .ok (.aload_n 2, 1) := dz1 (k := 22) (m := 1) dzd0_cL_law_1152 di_493 (Nat.zero_lt_succ _) rfl
theorem dL_law_1175 : decode cL_law 1175 = .ok (.invokevirtual 147, 3) := dz1 (k := 23) (m := 3) dzd0_cL_law_1152 di_808 (Nat.zero_lt_succ _) rfl
theorem dL_law_1178 : decode cL_law 1178 = .ok (.pop2, 1) := dz1 (k := 26) (m := 1) dzd0_cL_law_1152 di_807 (Nat.zero_lt_succ _) rfl
theorem dL_law_1179 : decode cL_law 1179 = .ok (.goto 89, 3) := dz1 (k := 27) (m := 3) dzd0_cL_law_1152 di_809 (Nat.zero_lt_succ _) rfl
theorem dL_law_1182 : decode cL_law 1182 = .ok (.aload_n 1, 1) := dz1 (k := 30) (m := 1) dzd0_cL_law_1152 di_26 (Nat.zero_lt_succ _) rfl
theorem dL_law_1183 : decode cL_law 1183 = .ok (.invokevirtual 148, 3) := dz1 (k := 31) (m := 3) dzd0_cL_law_1152 di_810 (Nat.zero_lt_succ _) rfl
set_option maxRecDepth 100000 in
theorem dzd0_cL_law_1184 : DzLies cL_law (.mk ⟨[0x00, 0x94, 0x58, 0x2c, 0xb6, 0x00, 0x97, 0x58, 0xa7, 0x00, 0x4c, 0x2b, 0x2a, 0x1d, 0x04, 0x60, 0x2e, 0xb6, 0x00, 0x98, 0x57, 0x2c, 0x2a, 0x1d, 0x04, 0x60, 0x2e, 0xb6, 0x00, 0x9b, 0x57, 0xa7, 0x00, 0x35]⟩) 1184 := dz_lies (m := 34) (Nat.zero_lt_succ _) rfl
theorem dL_law_1186 : decode cL_law 1186 = .ok (.pop2, 1) := dz1 (k := 2) (m := 1) dzd0_cL_law_1184 di_807 (Nat.zero_lt_succ _) rfl
theorem dL_law_1187 : decode cL_law 1187 = .ok (.aload_n 2, 1) := dz1 (k := 3) (m := 1) dzd0_cL_law_1184 di_493 (Nat.zero_lt_succ _) rfl
theorem dL_law_1188 : decode cL_law 1188 = .ok (.invokevirtual 151, 3) := dz1 (k := 4) (m := 3) dzd0_cL_law_1184 di_811 (Nat.zero_lt_succ _) rfl
theorem dL_law_1191 : decode cL_law 1191 = .ok (.pop2, 1) := dz1 (k := 7) (m := 1) dzd0_cL_law_1184 di_807 (Nat.zero_lt_succ _) rfl
theorem dL_law_1192 : decode cL_law 1192 = .ok (.goto 76, 3) := dz1 (k := 8) (m := 3) dzd0_cL_law_1184 di_812 (Nat.zero_lt_succ _) rfl
theorem dL_law_1195 : decode cL_law 1195 = .ok (.aload_n 1, 1) := dz1 (k := 11) (m := 1) dzd0_cL_law_1184 di_26 (Nat.zero_lt_succ _) rfl
theorem dL_law_1196 : decode cL_law 1196 = .ok (.aload_n 0, 1) := dz1 (k := 12) (m := 1) dzd0_cL_law_1184 di_0 (Nat.zero_lt_succ _) rfl
theorem dL_law_1197 : decode cL_law 1197 = .ok (.iload_n 3, 1) := dz1 (k := 13) (m := 1) dzd0_cL_law_1184 di_3 (Nat.zero_lt_succ _) rfl
theorem dL_law_1198 : decode cL_law 1198 = .ok (.iconst 1, 1) := dz1 (k := 14) (m := 1) dzd0_cL_law_1184 di_10 (Nat.zero_lt_succ _) rfl
theorem dL_law_1199 : decode cL_law 1199 = .ok (.iadd, 1) := dz1 (k := 15) (m := 1) dzd0_cL_law_1184 di_24 (Nat.zero_lt_succ _) rfl
theorem dL_law_1200 : decode cL_law 1200 = .ok (.iaload, 1) := dz1 (k := 16) (m := 1) dzd0_cL_law_1184 di_30 (Nat.zero_lt_succ _) rfl
theorem dL_law_1201 : decode cL_law 1201 = .ok (.invokevirtual 152, 3) := dz1 (k := 17) (m := 3) dzd0_cL_law_1184 di_600 (Nat.zero_lt_succ _) rfl
theorem dL_law_1204 : decode cL_law 1204 = .ok (.pop, 1) := dz1 (k := 20) (m := 1) dzd0_cL_law_1184 di_331 (Nat.zero_lt_succ _) rfl
theorem dL_law_1205 : decode cL_law 1205 = .ok (.aload_n 2, 1) := dz1 (k := 21) (m := 1) dzd0_cL_law_1184 di_493 (Nat.zero_lt_succ _) rfl
theorem dL_law_1206 : decode cL_law 1206 = .ok (.aload_n 0, 1) := dz1 (k := 22) (m := 1) dzd0_cL_law_1184 di_0 (Nat.zero_lt_succ _) rfl
theorem dL_law_1207 : decode cL_law 1207 = .ok (.iload_n 3, 1) := dz1 (k := 23) (m := 1) dzd0_cL_law_1184 di_3 (Nat.zero_lt_succ _) rfl
theorem dL_law_1208 : decode cL_law 1208 = .ok (.iconst 1, 1) := dz1 (k := 24) (m := 1) dzd0_cL_law_1184 di_10 (Nat.zero_lt_succ _) rfl
theorem dL_law_1209 : decode cL_law 1209 = .ok (.iadd, 1) := dz1 (k := 25) (m := 1) dzd0_cL_law_1184 di_24 (Nat.zero_lt_succ _) rfl
theorem dL_law_1210 : decode cL_law 1210 = .ok (.iaload, 1) := dz1 (k := 26) (m := 1) dzd0_cL_law_1184 di_30 (Nat.zero_lt_succ _) rfl
theorem dL_law_1211 : decode cL_law 1211 = .ok (.invokevirtual 155, 3) := dz1 (k := 27) (m := 3) dzd0_cL_law_1184 di_813 (Nat.zero_lt_succ _) rfl
theorem dL_law_1214 : decode cL_law 1214 = .ok (.pop, 1) := dz1 (k := 30) (m := 1) dzd0_cL_law_1184 di_331 (Nat.zero_lt_succ _) rfl
theorem dL_law_1215 : decode cL_law 1215 = .ok (.goto 53, 3) := dz1 (k := 31) (m := 3) dzd0_cL_law_1184 di_814 (Nat.zero_lt_succ _) rfl
set_option maxRecDepth 100000 in
theorem dzd0_cL_law_1216 : DzLies cL_law (.mk ⟨[0x00, 0x35, 0x2b, 0xb6, 0x00, 0x9c, 0x57, 0x2c, 0xb6, 0x00, 0x9f, 0x57, 0xa7, 0x00, 0x28, 0x2b, 0x2a, 0x1d, 0x04, 0x60, 0x2e, 0xb6, 0x00, 0xa0, 0x57, 0x2c, 0x2a, 0x1d, 0x04, 0x60, 0x2e, 0xb6, 0x00, 0xa3]⟩) 1216 := dz_lies (m := 34) (Nat.zero_lt_succ _) rfl
theorem dL_law_1218 : decode cL_law 1218 = .ok (.aload_n 1, 1) := dz1 (k := 2) (m := 1) dzd0_cL_law_1216 di_26 (Nat.zero_lt_succ _) rfl
theorem dL_law_1219 : decode cL_law 1219 = .ok (.invokevirtual 156, 3) := dz1 (k := 3) (m := 3) dzd0_cL_law_1216 di_815 (Nat.zero_lt_succ _) rfl
theorem dL_law_1222 : decode cL_law 1222 = .ok (.pop, 1) := dz1 (k := 6) (m := 1) dzd0_cL_law_1216 di_331 (Nat.zero_lt_succ _) rfl
theorem dL_law_1223 : decode cL_law 1223 = .ok (.aload_n 2, 1) := dz1 (k := 7) (m := 1) dzd0_cL_law_1216 di_493 (Nat.zero_lt_succ _) rfl
theorem dL_law_1224 : decode cL_law 1224 = .ok (.invokevirtual 159, 3) := dz1 (k := 8) (m := 3) dzd0_cL_law_1216 di_289 (Nat.zero_lt_succ _) rfl
theorem dL_law_1227 : decode cL_law 1227 = .ok (.pop, 1) := dz1 (k := 11) (m := 1) dzd0_cL_law_1216 di_331 (Nat.zero_lt_succ _) rfl
theorem dL_law_1228 : decode cL_law 1228 = .ok (.goto 40, 3) := dz1 (k := 12) (m := 3) dzd0_cL_law_1216 di_816 (Nat.zero_lt_succ _) rfl
theorem dL_law_1231 : decode cL_law 1231 = .ok (.aload_n 1, 1) := dz1 (k := 15) (m := 1) dzd0_cL_law_1216 di_26 (Nat.zero_lt_succ _) rfl
theorem dL_law_1232 : decode cL_law 1232 = .ok (.aload_n 0, 1) := dz1 (k := 16) (m := 1) dzd0_cL_law_1216 di_0 (Nat.zero_lt_succ _) rfl
theorem dL_law_1233 : decode cL_law 1233 = .ok (.iload_n 3, 1) := dz1 (k := 17) (m := 1) dzd0_cL_law_1216 di_3 (Nat.zero_lt_succ _) rfl
theorem dL_law_1234 : decode cL_law 1234 = .ok (.iconst 1, 1) := dz1 (k := 18) (m := 1) dzd0_cL_law_1216 di_10 (Nat.zero_lt_succ _) rfl
theorem dL_law_1235 : decode cL_law 1235 = .ok (.iadd, 1) := dz1 (k := 19) (m := 1) dzd0_cL_law_1216 di_24 (Nat.zero_lt_succ _) rfl
theorem dL_law_1236 : decode cL_law 1236 = .ok (.iaload, 1) := dz1 (k := 20) (m := 1) dzd0_cL_law_1216 di_30 (Nat.zero_lt_succ _) rfl
theorem dL_law_1237 : decode cL_law 1237 = .ok (.invokevirtual 160, 3) := dz1 (k := 21) (m := 3) dzd0_cL_law_1216 di_610 (Nat.zero_lt_succ _) rfl
theorem dL_law_1240 : decode cL_law 1240 = .ok (.pop, 1) := dz1 (k := 24) (m := 1) dzd0_cL_law_1216 di_331 (Nat.zero_lt_succ _) rfl
theorem dL_law_1241 : decode cL_law 1241 = .ok (.aload_n 2, 1) := dz1 (k := 25) (m := 1) dzd0_cL_law_1216 di_493 (Nat.zero_lt_succ _) rfl
theorem dL_law_1242 : decode cL_law 1242 = .ok (.aload_n 0, 1) := dz1 (k := 26) (m := 1) dzd0_cL_law_1216 di_0 (Nat.zero_lt_succ _) rfl
theorem dL_law_1243 : decode cL_law 1243 = .ok (.iload_n 3, 1) := dz1 (k := 27) (m := 1) dzd0_cL_law_1216 di_3 (Nat.zero_lt_succ _) rfl
theorem dL_law_1244 : decode cL_law 1244 = .ok (.iconst 1, 1) := dz1 (k := 28) (m := 1) dzd0_cL_law_1216 di_10 (Nat.zero_lt_succ _) rfl
theorem dL_law_1245 : decode cL_law 1245 = .ok (.iadd, 1) := dz1 (k := 29) (m := 1) dzd0_cL_law_1216 di_24 (Nat.zero_lt_succ _) rfl
theorem dL_law_1246 : decode cL_law 1246 = .ok (.iaload, 1) := dz1 (k := 30) (m := 1) dzd0_cL_law_1216 di_30 (Nat.zero_lt_succ _) rfl
theorem dL_law_1247 : decode cL_law 1247 = .ok (.invokevirtual 163, 3) := dz1 (k := 31) (m := 3) dzd0_cL_law_1216 di_817 (Nat.zero_lt_succ _) rfl
set_option maxRecDepth 100000 in
theorem dzd0_cL_law_1248 : DzLies cL_law (.mk ⟨[0x00, 0xa3, 0x57, 0xa7, 0x00, 0x11, 0x2b, 0xb6, 0x00, 0xa4, 0x2c, 0xb6, 0x00, 0xa7, 0x94, 0x99, 0x00, 0x05, 0x03, 0xac, 0x84, 0x03, 0x06, 0xa7, 0xfb, 0x1b, 0x04, 0xac]⟩) 1248 := dz_lies (m := 28) (Nat.zero_lt_succ _) rfl
theorem dL_law_1250 : decode cL_law 1250 = .ok (.pop, 1) := dz1 (k := 2) (m := 1) dzd0_cL_law_1248 di_331 (Nat.zero_lt_succ _) rfl
theorem dL_law_1251 : decode cL_law 1251 = .ok (.goto 17, 3) := dz1 (k := 3) (m := 3) dzd0_cL_law_1248 di_687 (Nat.zero_lt_succ _) rfl
theorem dL_law_1254 : decode cL_law 1254 = .ok (.aload_n 1, 1) := dz1 (k := 6) (m := 1) dzd0_cL_law_1248 di_26 (Nat.zero_lt_succ _) rfl
theorem dL_law_1255 : decode cL_law 1255 = .ok (.invokevirtual 164, 3) := dz1 (k := 7) (m := 3) dzd0_cL_law_1248 di_611 (Nat.zero_lt_succ _) rfl
theorem dL_law_1258 : decode cL_law 1258 = .ok (.aload_n 2, 1) := dz1 (k := 10) (m := 1) dzd0_cL_law_1248 di_493 (Nat.zero_lt_succ _) rfl
theorem dL_law_1259 : decode cL_law 1259 = .ok (.invokevirtual 167, 3) := dz1 (k := 11) (m := 3) dzd0_cL_law_1248 di_295 (Nat.zero_lt_succ _) rfl
theorem dL_law_1262 : decode cL_law 1262 = .ok (.lcmp, 1) := dz1 (k := 14) (m := 1) dzd0_cL_law_1248 di_376 (Nat.zero_lt_succ _) rfl
theorem dL_law_1263 : decode cL_law 1263 = .ok (.ifCond .eq 5, 3) := dz1 (k := 15) (m := 3) dzd0_cL_law_1248 di_236 (Nat.zero_lt_succ _) rfl
theorem dL_law_1266 : decode cL_law 1266 = .ok (.iconst 0, 1) := dz1 (k := 18) (m := 1) dzd0_cL_law_1248 di_8 (Nat.zero_lt_succ _) rfl
theorem dL_law_1267 : decode cL_law 1267 = .ok (.ireturn, 1) := dz1 (k := 19) (m := 1) dzd0_cL_law_1248 di_13 (Nat.zero_lt_succ _) rfl
theorem dL_law_1268 : decode cL_law 1268 = .ok (.iinc 3 6, 3) := dz1 (k := 20) (m := 3) dzd0_cL_law_1248 di_818 (Nat.zero_lt_succ _) rfl
theorem dL_law_1271 : decode cL_law 1271 = .ok (.goto (-1253), 3) := dz1 (k := 23) (m := 3) dzd0_cL_law_1248 di_819 (Nat.zero_lt_succ _) rfl
theorem dL_law_1274 : decode cL_law 1274 = .ok (.iconst 1, 1) := dz1 (k := 26) (m := 1) dzd0_cL_law_1248 di_10 (Nat.zero_lt_succ _) rfl
theorem dL_law_1275 : decode cL_law 1275 = .ok (.ireturn, 1) := dz1 (k := 27) (m := 1) dzd0_cL_law_1248 di_13 (Nat.zero_lt_succ _) rfl
