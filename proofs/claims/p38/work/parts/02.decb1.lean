set_option maxRecDepth 100000 in
theorem dzb1_cX10_digest_224 : DzLies cX10_digest (.mk ⟨[0xb4, 0x00, 0x17, 0x1d, 0x2e, 0x85, 0x61, 0x40, 0x03, 0x36, 0x04, 0x15, 0x04, 0x2a, 0xb4, 0x00, 0x17, 0x1d, 0x2e, 0xa2, 0x00, 0x1a, 0x14, 0x01, 0x35, 0x1f, 0x69, 0x2a, 0xb4, 0x00, 0x14, 0x1d]⟩) 224 := dz_lies (m := 32) (Nat.zero_lt_succ _) rfl
theorem dX10_digest_251 : decode cX10_digest 251 = .ok (.aload_n 0, 1) := dz1 (k := 27) (m := 1) dzb1_cX10_digest_224 di_0 (Nat.zero_lt_succ _) rfl
theorem dX10_digest_252 : decode cX10_digest 252 = .ok (.getfield 20, 3) := dz1 (k := 28) (m := 3) dzb1_cX10_digest_224 di_97 (Nat.zero_lt_succ _) rfl
theorem dX10_digest_255 : decode cX10_digest 255 = .ok (.iload_n 3, 1) := dz1 (k := 31) (m := 1) dzb1_cX10_digest_224 di_3 (Nat.zero_lt_succ _) rfl
set_option maxRecDepth 100000 in
theorem dzb1_cX10_digest_256 : DzLies cX10_digest (.mk ⟨[0x32, 0x15, 0x04, 0x33, 0x85, 0x61, 0x40, 0x84, 0x04, 0x01, 0xa7, 0xff, 0xe1, 0x84, 0x03, 0x01, 0xa7, 0xff, 0xc5, 0x1f, 0xad]⟩) 256 := dz_lies (m := 21) (Nat.zero_lt_succ _) rfl
theorem dX10_digest_256 : decode cX10_digest 256 = .ok (.aaload, 1) := dz1 (k := 0) (m := 1) dzb1_cX10_digest_256 di_130 (Nat.zero_lt_succ _) rfl
theorem dX10_digest_257 : decode cX10_digest 257 = .ok (.iload 4, 2) := dz1 (k := 1) (m := 2) dzb1_cX10_digest_256 di_52 (Nat.zero_lt_succ _) rfl
theorem dX10_digest_259 : decode cX10_digest 259 = .ok (.baload, 1) := dz1 (k := 3) (m := 1) dzb1_cX10_digest_256 di_91 (Nat.zero_lt_succ _) rfl
theorem dX10_digest_260 : decode cX10_digest 260 = .ok (.i2l, 1) := dz1 (k := 4) (m := 1) dzb1_cX10_digest_256 di_250 (Nat.zero_lt_succ _) rfl
theorem dX10_digest_261 : decode cX10_digest 261 = .ok (.ladd, 1) := dz1 (k := 5) (m := 1) dzb1_cX10_digest_256 di_251 (Nat.zero_lt_succ _) rfl
theorem dX10_digest_262 : decode cX10_digest 262 = .ok (.lstore_n 1, 1) := dz1 (k := 6) (m := 1) dzb1_cX10_digest_256 di_395 (Nat.zero_lt_succ _) rfl
theorem dX10_digest_263 : decode cX10_digest 263 = .ok (.iinc 4 1, 3) := dz1 (k := 7) (m := 3) dzb1_cX10_digest_256 di_63 (Nat.zero_lt_succ _) rfl
theorem dX10_digest_266 : decode cX10_digest 266 = .ok (.goto (-31), 3) := dz1 (k := 10) (m := 3) dzb1_cX10_digest_256 di_169 (Nat.zero_lt_succ _) rfl
theorem dX10_digest_269 : decode cX10_digest 269 = .ok (.iinc 3 1, 3) := dz1 (k := 13) (m := 3) dzb1_cX10_digest_256 di_94 (Nat.zero_lt_succ _) rfl
theorem dX10_digest_272 : decode cX10_digest 272 = .ok (.goto (-59), 3) := dz1 (k := 16) (m := 3) dzb1_cX10_digest_256 di_408 (Nat.zero_lt_succ _) rfl
theorem dX10_digest_275 : decode cX10_digest 275 = .ok (.lload_n 1, 1) := dz1 (k := 19) (m := 1) dzb1_cX10_digest_256 di_399 (Nat.zero_lt_succ _) rfl
theorem dX10_digest_276 : decode cX10_digest 276 = .ok (.lreturn, 1) := dz1 (k := 20) (m := 1) dzb1_cX10_digest_256 di_385 (Nat.zero_lt_succ _) rfl
set_option maxRecDepth 100000 in
theorem dzb1_cX10_found_0 : DzLies cX10_found (.mk ⟨[0x2a, 0x1b, 0xb5, 0x01, 0x30, 0x2a, 0xb4, 0x00, 0x4a, 0x1b, 0x5c, 0x2e, 0x04, 0x60, 0x4f, 0x10, 0xfd, 0xac]⟩) 0 := dz_lies (m := 18) (Nat.zero_lt_succ _) rfl
theorem dX10_found_0 : decode cX10_found 0 = .ok (.aload_n 0, 1) := dz1 (k := 0) (m := 1) dzb1_cX10_found_0 di_0 (Nat.zero_lt_succ _) rfl
theorem dX10_found_1 : decode cX10_found 1 = .ok (.iload_n 1, 1) := dz1 (k := 1) (m := 1) dzb1_cX10_found_0 di_11 (Nat.zero_lt_succ _) rfl
theorem dX10_found_2 : decode cX10_found 2 = .ok (.putfield 304, 3) := dz1 (k := 2) (m := 3) dzb1_cX10_found_0 di_409 (Nat.zero_lt_succ _) rfl
theorem dX10_found_5 : decode cX10_found 5 = .ok (.aload_n 0, 1) := dz1 (k := 5) (m := 1) dzb1_cX10_found_0 di_0 (Nat.zero_lt_succ _) rfl
theorem dX10_found_6 : decode cX10_found 6 = .ok (.getfield 74, 3) := dz1 (k := 6) (m := 3) dzb1_cX10_found_0 di_393 (Nat.zero_lt_succ _) rfl
theorem dX10_found_9 : decode cX10_found 9 = .ok (.iload_n 1, 1) := dz1 (k := 9) (m := 1) dzb1_cX10_found_0 di_11 (Nat.zero_lt_succ _) rfl
theorem dX10_found_10 : decode cX10_found 10 = .ok (.dup2, 1) := dz1 (k := 10) (m := 1) dzb1_cX10_found_0 di_67 (Nat.zero_lt_succ _) rfl
theorem dX10_found_11 : decode cX10_found 11 = .ok (.iaload, 1) := dz1 (k := 11) (m := 1) dzb1_cX10_found_0 di_30 (Nat.zero_lt_succ _) rfl
theorem dX10_found_12 : decode cX10_found 12 = .ok (.iconst 1, 1) := dz1 (k := 12) (m := 1) dzb1_cX10_found_0 di_10 (Nat.zero_lt_succ _) rfl
theorem dX10_found_13 : decode cX10_found 13 = .ok (.iadd, 1) := dz1 (k := 13) (m := 1) dzb1_cX10_found_0 di_24 (Nat.zero_lt_succ _) rfl
theorem dX10_found_14 : decode cX10_found 14 = .ok (.iastore, 1) := dz1 (k := 14) (m := 1) dzb1_cX10_found_0 di_22 (Nat.zero_lt_succ _) rfl
theorem dX10_found_15 : decode cX10_found 15 = .ok (.bipush (-3), 2) := dz1 (k := 15) (m := 2) dzb1_cX10_found_0 di_410 (Nat.zero_lt_succ _) rfl
theorem dX10_found_17 : decode cX10_found 17 = .ok (.ireturn, 1) := dz1 (k := 17) (m := 1) dzb1_cX10_found_0 di_13 (Nat.zero_lt_succ _) rfl
set_option maxRecDepth 100000 in
theorem dzb1_cX10_isRow_0 : DzLies cX10_isRow (.mk ⟨[0x1b, 0x9b, 0x00, 0x0d, 0x1b, 0x10, 0x06, 0xa2, 0x00, 0x07, 0x04, 0xa7, 0x00, 0x04, 0x03, 0xac]⟩) 0 := dz_lies (m := 16) (Nat.zero_lt_succ _) rfl
theorem dX10_isRow_0 : decode cX10_isRow 0 = .ok (.iload_n 1, 1) := dz1 (k := 0) (m := 1) dzb1_cX10_isRow_0 di_11 (Nat.zero_lt_succ _) rfl
theorem dX10_isRow_1 : decode cX10_isRow 1 = .ok (.ifCond .lt 13, 3) := dz1 (k := 1) (m := 3) dzb1_cX10_isRow_0 di_259 (Nat.zero_lt_succ _) rfl
theorem dX10_isRow_4 : decode cX10_isRow 4 = .ok (.iload_n 1, 1) := dz1 (k := 4) (m := 1) dzb1_cX10_isRow_0 di_11 (Nat.zero_lt_succ _) rfl
theorem dX10_isRow_5 : decode cX10_isRow 5 = .ok (.bipush 6, 2) := dz1 (k := 5) (m := 2) dzb1_cX10_isRow_0 di_86 (Nat.zero_lt_succ _) rfl
theorem dX10_isRow_7 : decode cX10_isRow 7 = .ok (.if_icmp .ge 7, 3) := dz1 (k := 7) (m := 3) dzb1_cX10_isRow_0 di_411 (Nat.zero_lt_succ _) rfl
theorem dX10_isRow_10 : decode cX10_isRow 10 = .ok (.iconst 1, 1) := dz1 (k := 10) (m := 1) dzb1_cX10_isRow_0 di_10 (Nat.zero_lt_succ _) rfl
theorem dX10_isRow_11 : decode cX10_isRow 11 = .ok (.goto 4, 3) := dz1 (k := 11) (m := 3) dzb1_cX10_isRow_0 di_49 (Nat.zero_lt_succ _) rfl
theorem dX10_isRow_14 : decode cX10_isRow 14 = .ok (.iconst 0, 1) := dz1 (k := 14) (m := 1) dzb1_cX10_isRow_0 di_8 (Nat.zero_lt_succ _) rfl
theorem dX10_isRow_15 : decode cX10_isRow 15 = .ok (.ireturn, 1) := dz1 (k := 15) (m := 1) dzb1_cX10_isRow_0 di_13 (Nat.zero_lt_succ _) rfl
set_option maxRecDepth 100000 in
theorem dzb1_cX10_isText_0 : DzLies cX10_isText (.mk ⟨[0x1b, 0x9b, 0x00, 0x0c, 0x1b, 0x07, 0xa2, 0x00, 0x07, 0x04, 0xa7, 0x00, 0x04, 0x03, 0xac]⟩) 0 := dz_lies (m := 15) (Nat.zero_lt_succ _) rfl
theorem dX10_isText_0 : decode cX10_isText 0 = .ok (.iload_n 1, 1) := dz1 (k := 0) (m := 1) dzb1_cX10_isText_0 di_11 (Nat.zero_lt_succ _) rfl
theorem dX10_isText_1 : decode cX10_isText 1 = .ok (.ifCond .lt 12, 3) := dz1 (k := 1) (m := 3) dzb1_cX10_isText_0 di_240 (Nat.zero_lt_succ _) rfl
theorem dX10_isText_4 : decode cX10_isText 4 = .ok (.iload_n 1, 1) := dz1 (k := 4) (m := 1) dzb1_cX10_isText_0 di_11 (Nat.zero_lt_succ _) rfl
theorem dX10_isText_5 : decode cX10_isText 5 = .ok (.iconst 4, 1) := dz1 (k := 5) (m := 1) dzb1_cX10_isText_0 di_33 (Nat.zero_lt_succ _) rfl
theorem dX10_isText_6 : decode cX10_isText 6 = .ok (.if_icmp .ge 7, 3) := dz1 (k := 6) (m := 3) dzb1_cX10_isText_0 di_411 (Nat.zero_lt_succ _) rfl
theorem dX10_isText_9 : decode cX10_isText 9 = .ok (.iconst 1, 1) := dz1 (k := 9) (m := 1) dzb1_cX10_isText_0 di_10 (Nat.zero_lt_succ _) rfl
theorem dX10_isText_10 : decode cX10_isText 10 = .ok (.goto 4, 3) := dz1 (k := 10) (m := 3) dzb1_cX10_isText_0 di_49 (Nat.zero_lt_succ _) rfl
theorem dX10_isText_13 : decode cX10_isText 13 = .ok (.iconst 0, 1) := dz1 (k := 13) (m := 1) dzb1_cX10_isText_0 di_8 (Nat.zero_lt_succ _) rfl
theorem dX10_isText_14 : decode cX10_isText 14 = .ok (.ireturn, 1) := dz1 (k := 14) (m := 1) dzb1_cX10_isText_0 di_13 (Nat.zero_lt_succ _) rfl
set_option maxRecDepth 100000 in
theorem dzb1_cX10_isPlayer_0 : DzLies cX10_isPlayer (.mk ⟨[0x1b, 0x9b, 0x00, 0x12, 0x1b, 0x2a, 0xb4, 0x00, 0x24, 0xb4, 0x00, 0x87, 0xa2, 0x00, 0x07, 0x04, 0xa7, 0x00, 0x04, 0x03, 0xac]⟩) 0 := dz_lies (m := 21) (Nat.zero_lt_succ _) rfl
theorem dX10_isPlayer_0 : decode cX10_isPlayer 0 = .ok (.iload_n 1, 1) := dz1 (k := 0) (m := 1) dzb1_cX10_isPlayer_0 di_11 (Nat.zero_lt_succ _) rfl
theorem dX10_isPlayer_1 : decode cX10_isPlayer 1 = .ok (.ifCond .lt 18, 3) := dz1 (k := 1) (m := 3) dzb1_cX10_isPlayer_0 di_412 (Nat.zero_lt_succ _) rfl
theorem dX10_isPlayer_4 : decode cX10_isPlayer 4 = .ok (.iload_n 1, 1) := dz1 (k := 4) (m := 1) dzb1_cX10_isPlayer_0 di_11 (Nat.zero_lt_succ _) rfl
theorem dX10_isPlayer_5 : decode cX10_isPlayer 5 = .ok (.aload_n 0, 1) := dz1 (k := 5) (m := 1) dzb1_cX10_isPlayer_0 di_0 (Nat.zero_lt_succ _) rfl
theorem dX10_isPlayer_6 : decode cX10_isPlayer 6 = .ok (.getfield 36, 3) := dz1 (k := 6) (m := 3) dzb1_cX10_isPlayer_0 di_205 (Nat.zero_lt_succ _) rfl
theorem dX10_isPlayer_9 : decode cX10_isPlayer 9 = .ok (.getfield 135, 3) := dz1 (k := 9) (m := 3) dzb1_cX10_isPlayer_0 di_270 (Nat.zero_lt_succ _) rfl
theorem dX10_isPlayer_12 : decode cX10_isPlayer 12 = .ok (.if_icmp .ge 7, 3) := dz1 (k := 12) (m := 3) dzb1_cX10_isPlayer_0 di_411 (Nat.zero_lt_succ _) rfl
theorem dX10_isPlayer_15 : decode cX10_isPlayer 15 = .ok (.iconst 1, 1) := dz1 (k := 15) (m := 1) dzb1_cX10_isPlayer_0 di_10 (Nat.zero_lt_succ _) rfl
theorem dX10_isPlayer_16 : decode cX10_isPlayer 16 = .ok (.goto 4, 3) := dz1 (k := 16) (m := 3) dzb1_cX10_isPlayer_0 di_49 (Nat.zero_lt_succ _) rfl
theorem dX10_isPlayer_19 : decode cX10_isPlayer 19 = .ok (.iconst 0, 1) := dz1 (k := 19) (m := 1) dzb1_cX10_isPlayer_0 di_8 (Nat.zero_lt_succ _) rfl
theorem dX10_isPlayer_20 : decode cX10_isPlayer 20 = .ok (.ireturn, 1) := dz1 (k := 20) (m := 1) dzb1_cX10_isPlayer_0 di_13 (Nat.zero_lt_succ _) rfl
set_option maxRecDepth 100000 in
theorem dzb1_cX10_isPlace_0 : DzLies cX10_isPlace (.mk ⟨[0x1b, 0x9b, 0x00, 0x0d, 0x1b, 0x10, 0x06, 0xa2, 0x00, 0x07, 0x04, 0xa7, 0x00, 0x04, 0x03, 0xac]⟩) 0 := dz_lies (m := 16) (Nat.zero_lt_succ _) rfl
theorem dX10_isPlace_0 : decode cX10_isPlace 0 = .ok (.iload_n 1, 1) := dz1 (k := 0) (m := 1) dzb1_cX10_isPlace_0 di_11 (Nat.zero_lt_succ _) rfl
theorem dX10_isPlace_1 : decode cX10_isPlace 1 = .ok (.ifCond .lt 13, 3) := dz1 (k := 1) (m := 3) dzb1_cX10_isPlace_0 di_259 (Nat.zero_lt_succ _) rfl
theorem dX10_isPlace_4 : decode cX10_isPlace 4 = .ok (.iload_n 1, 1) := dz1 (k := 4) (m := 1) dzb1_cX10_isPlace_0 di_11 (Nat.zero_lt_succ _) rfl
theorem dX10_isPlace_5 : decode cX10_isPlace 5 = .ok (.bipush 6, 2) := dz1 (k := 5) (m := 2) dzb1_cX10_isPlace_0 di_86 (Nat.zero_lt_succ _) rfl
theorem dX10_isPlace_7 : decode cX10_isPlace 7 = .ok (.if_icmp .ge 7, 3) := dz1 (k := 7) (m := 3) dzb1_cX10_isPlace_0 di_411 (Nat.zero_lt_succ _) rfl
theorem dX10_isPlace_10 : decode cX10_isPlace 10 = .ok (.iconst 1, 1) := dz1 (k := 10) (m := 1) dzb1_cX10_isPlace_0 di_10 (Nat.zero_lt_succ _) rfl
theorem dX10_isPlace_11 : decode cX10_isPlace 11 = .ok (.goto 4, 3) := dz1 (k := 11) (m := 3) dzb1_cX10_isPlace_0 di_49 (Nat.zero_lt_succ _) rfl
theorem dX10_isPlace_14 : decode cX10_isPlace 14 = .ok (.iconst 0, 1) := dz1 (k := 14) (m := 1) dzb1_cX10_isPlace_0 di_8 (Nat.zero_lt_succ _) rfl
theorem dX10_isPlace_15 : decode cX10_isPlace 15 = .ok (.ireturn, 1) := dz1 (k := 15) (m := 1) dzb1_cX10_isPlace_0 di_13 (Nat.zero_lt_succ _) rfl
set_option maxRecDepth 100000 in
theorem dzb1_cX10_isNumber_0 : DzLies cX10_isNumber (.mk ⟨[0x1b, 0x04, 0xa1, 0x00, 0x0d, 0x1b, 0x10, 0x0c, 0xa3, 0x00, 0x07, 0x04, 0xa7, 0x00, 0x04, 0x03, 0xac]⟩) 0 := dz_lies (m := 17) (Nat.zero_lt_succ _) rfl
theorem dX10_isNumber_0 : decode cX10_isNumber 0 = .ok (.iload_n 1, 1) := dz1 (k := 0) (m := 1) dzb1_cX10_isNumber_0 di_11 (Nat.zero_lt_succ _) rfl
theorem dX10_isNumber_1 : decode cX10_isNumber 1 = .ok (.iconst 1, 1) := dz1 (k := 1) (m := 1) dzb1_cX10_isNumber_0 di_10 (Nat.zero_lt_succ _) rfl
theorem dX10_isNumber_2 : decode cX10_isNumber 2 = .ok (.if_icmp .lt 13, 3) := dz1 (k := 2) (m := 3) dzb1_cX10_isNumber_0 di_413 (Nat.zero_lt_succ _) rfl
theorem dX10_isNumber_5 : decode cX10_isNumber 5 = .ok (.iload_n 1, 1) := dz1 (k := 5) (m := 1) dzb1_cX10_isNumber_0 di_11 (Nat.zero_lt_succ _) rfl
theorem dX10_isNumber_6 : decode cX10_isNumber 6 = .ok (.bipush 12, 2) := dz1 (k := 6) (m := 2) dzb1_cX10_isNumber_0 di_126 (Nat.zero_lt_succ _) rfl
theorem dX10_isNumber_8 : decode cX10_isNumber 8 = .ok (.if_icmp .gt 7, 3) := dz1 (k := 8) (m := 3) dzb1_cX10_isNumber_0 di_187 (Nat.zero_lt_succ _) rfl
theorem dX10_isNumber_11 : decode cX10_isNumber 11 = .ok (.iconst 1, 1) := dz1 (k := 11) (m := 1) dzb1_cX10_isNumber_0 di_10 (Nat.zero_lt_succ _) rfl
theorem dX10_isNumber_12 : decode cX10_isNumber 12 = .ok (.goto 4, 3) := dz1 (k := 12) (m := 3) dzb1_cX10_isNumber_0 di_49 (Nat.zero_lt_succ _) rfl
theorem dX10_isNumber_15 : decode cX10_isNumber 15 = .ok (.iconst 0, 1) := dz1 (k := 15) (m := 1) dzb1_cX10_isNumber_0 di_8 (Nat.zero_lt_succ _) rfl
theorem dX10_isNumber_16 : decode cX10_isNumber 16 = .ok (.ireturn, 1) := dz1 (k := 16) (m := 1) dzb1_cX10_isNumber_0 di_13 (Nat.zero_lt_succ _) rfl
set_option maxRecDepth 100000 in
theorem dzb1_cX10_isKeptPlace_0 : DzLies cX10_isKeptPlace (.mk ⟨[0x1b, 0x9b, 0x00, 0x0c, 0x1b, 0x06, 0xa2, 0x00, 0x07, 0x04, 0xa7, 0x00, 0x04, 0x03, 0xac]⟩) 0 := dz_lies (m := 15) (Nat.zero_lt_succ _) rfl
theorem dX10_isKeptPlace_0 : decode cX10_isKeptPlace 0 = .ok (.iload_n 1, 1) := dz1 (k := 0) (m := 1) dzb1_cX10_isKeptPlace_0 di_11 (Nat.zero_lt_succ _) rfl
theorem dX10_isKeptPlace_1 : decode cX10_isKeptPlace 1 = .ok (.ifCond .lt 12, 3) := dz1 (k := 1) (m := 3) dzb1_cX10_isKeptPlace_0 di_240 (Nat.zero_lt_succ _) rfl
theorem dX10_isKeptPlace_4 : decode cX10_isKeptPlace 4 = .ok (.iload_n 1, 1) := dz1 (k := 4) (m := 1) dzb1_cX10_isKeptPlace_0 di_11 (Nat.zero_lt_succ _) rfl
theorem dX10_isKeptPlace_5 : decode cX10_isKeptPlace 5 = .ok (.iconst 3, 1) := dz1 (k := 5) (m := 1) dzb1_cX10_isKeptPlace_0 di_4 (Nat.zero_lt_succ _) rfl
theorem dX10_isKeptPlace_6 : decode cX10_isKeptPlace 6 = .ok (.if_icmp .ge 7, 3) := dz1 (k := 6) (m := 3) dzb1_cX10_isKeptPlace_0 di_411 (Nat.zero_lt_succ _) rfl
theorem dX10_isKeptPlace_9 : decode cX10_isKeptPlace 9 = .ok (.iconst 1, 1) := dz1 (k := 9) (m := 1) dzb1_cX10_isKeptPlace_0 di_10 (Nat.zero_lt_succ _) rfl
theorem dX10_isKeptPlace_10 : decode cX10_isKeptPlace 10 = .ok (.goto 4, 3) := dz1 (k := 10) (m := 3) dzb1_cX10_isKeptPlace_0 di_49 (Nat.zero_lt_succ _) rfl
theorem dX10_isKeptPlace_13 : decode cX10_isKeptPlace 13 = .ok (.iconst 0, 1) := dz1 (k := 13) (m := 1) dzb1_cX10_isKeptPlace_0 di_8 (Nat.zero_lt_succ _) rfl
theorem dX10_isKeptPlace_14 : decode cX10_isKeptPlace 14 = .ok (.ireturn, 1) := dz1 (k := 14) (m := 1) dzb1_cX10_isKeptPlace_0 di_13 (Nat.zero_lt_succ _) rfl
set_option maxRecDepth 100000 in
theorem dzb1_cX10_refusedRow_0 : DzLies cX10_refusedRow (.mk ⟨[0x2a, 0x1b, 0xb6, 0x00, 0x57, 0x9a, 0x00, 0x05, 0x02, 0xac, 0x2a, 0xb4, 0x00, 0x0e, 0x1b, 0x2e, 0x9c, 0x00, 0x0b, 0x2a, 0x04, 0xb6, 0x00, 0x5b, 0xa7, 0x00, 0x04, 0x03, 0xac]⟩) 0 := dz_lies (m := 29) (Nat.zero_lt_succ _) rfl
theorem dX10_refusedRow_0 : decode cX10_refusedRow 0 = .ok (.aload_n 0, 1) := dz1 (k := 0) (m := 1) dzb1_cX10_refusedRow_0 di_0 (Nat.zero_lt_succ _) rfl
theorem dX10_refusedRow_1 : decode cX10_refusedRow 1 = .ok (.iload_n 1, 1) := dz1 (k := 1) (m := 1) dzb1_cX10_refusedRow_0 di_11 (Nat.zero_lt_succ _) rfl
theorem dX10_refusedRow_2 : decode cX10_refusedRow 2 = .ok (.invokevirtual 87, 3) := dz1 (k := 2) (m := 3) dzb1_cX10_refusedRow_0 di_228 (Nat.zero_lt_succ _) rfl
theorem dX10_refusedRow_5 : decode cX10_refusedRow 5 = .ok (.ifCond .ne 5, 3) := dz1 (k := 5) (m := 3) dzb1_cX10_refusedRow_0 di_239 (Nat.zero_lt_succ _) rfl
theorem dX10_refusedRow_8 : decode cX10_refusedRow 8 = .ok (.iconst (-1), 1) := dz1 (k := 8) (m := 1) dzb1_cX10_refusedRow_0 di_65 (Nat.zero_lt_succ _) rfl
theorem dX10_refusedRow_9 : decode cX10_refusedRow 9 = .ok (.ireturn, 1) := dz1 (k := 9) (m := 1) dzb1_cX10_refusedRow_0 di_13 (Nat.zero_lt_succ _) rfl
theorem dX10_refusedRow_10 : decode cX10_refusedRow 10 = .ok (.aload_n 0, 1) := dz1 (k := 10) (m := 1) dzb1_cX10_refusedRow_0 di_0 (Nat.zero_lt_succ _) rfl
theorem dX10_refusedRow_11 : decode cX10_refusedRow 11 = .ok (.getfield 14, 3) := dz1 (k := 11) (m := 3) dzb1_cX10_refusedRow_0 di_220 (Nat.zero_lt_succ _) rfl
theorem dX10_refusedRow_14 : decode cX10_refusedRow 14 = .ok (.iload_n 1, 1) := dz1 (k := 14) (m := 1) dzb1_cX10_refusedRow_0 di_11 (Nat.zero_lt_succ _) rfl
theorem dX10_refusedRow_15 : decode cX10_refusedRow 15 = .ok (.iaload, 1) := dz1 (k := 15) (m := 1) dzb1_cX10_refusedRow_0 di_30 (Nat.zero_lt_succ _) rfl
theorem dX10_refusedRow_16 : decode cX10_refusedRow 16 = .ok (.ifCond .ge 11, 3) := dz1 (k := 16) (m := 3) dzb1_cX10_refusedRow_0 di_414 (Nat.zero_lt_succ _) rfl
theorem dX10_refusedRow_19 : decode cX10_refusedRow 19 = .ok (.aload_n 0, 1) := dz1 (k := 19) (m := 1) dzb1_cX10_refusedRow_0 di_0 (Nat.zero_lt_succ _) rfl
theorem dX10_refusedRow_20 : decode cX10_refusedRow 20 = .ok (.iconst 1, 1) := dz1 (k := 20) (m := 1) dzb1_cX10_refusedRow_0 di_10 (Nat.zero_lt_succ _) rfl
theorem dX10_refusedRow_21 : decode cX10_refusedRow 21 = .ok (.invokevirtual 91, 3) := dz1 (k := 21) (m := 3) dzb1_cX10_refusedRow_0 di_232 (Nat.zero_lt_succ _) rfl
theorem dX10_refusedRow_24 : decode cX10_refusedRow 24 = .ok (.goto 4, 3) := dz1 (k := 24) (m := 3) dzb1_cX10_refusedRow_0 di_49 (Nat.zero_lt_succ _) rfl
theorem dX10_refusedRow_27 : decode cX10_refusedRow 27 = .ok (.iconst 0, 1) := dz1 (k := 27) (m := 1) dzb1_cX10_refusedRow_0 di_8 (Nat.zero_lt_succ _) rfl
theorem dX10_refusedRow_28 : decode cX10_refusedRow 28 = .ok (.ireturn, 1) := dz1 (k := 28) (m := 1) dzb1_cX10_refusedRow_0 di_13 (Nat.zero_lt_succ _) rfl
set_option maxRecDepth 100000 in
theorem dzb1_cX10_refusedPlace_0 : DzLies cX10_refusedPlace (.mk ⟨[0x2a, 0x1b, 0xb6, 0x00, 0x66, 0x3e, 0x1d, 0x99, 0x00, 0x05, 0x1d, 0xac, 0x1c, 0x9b, 0x00, 0x0d, 0x1c, 0x2a, 0xb4, 0x00, 0x0e, 0x1b, 0x2e, 0xa1, 0x00, 0x0b, 0x2a, 0x05, 0xb6, 0x00, 0x5b, 0xa7, 0x00, 0x04]⟩) 0 := dz_lies (m := 34) (Nat.zero_lt_succ _) rfl
theorem dX10_refusedPlace_0 : decode cX10_refusedPlace 0 = .ok (.aload_n 0, 1) := dz1 (k := 0) (m := 1) dzb1_cX10_refusedPlace_0 di_0 (Nat.zero_lt_succ _) rfl
theorem dX10_refusedPlace_1 : decode cX10_refusedPlace 1 = .ok (.iload_n 1, 1) := dz1 (k := 1) (m := 1) dzb1_cX10_refusedPlace_0 di_11 (Nat.zero_lt_succ _) rfl
theorem dX10_refusedPlace_2 : decode cX10_refusedPlace 2 = .ok (.invokevirtual 102, 3) := dz1 (k := 2) (m := 3) dzb1_cX10_refusedPlace_0 di_237 (Nat.zero_lt_succ _) rfl
theorem dX10_refusedPlace_5 : decode cX10_refusedPlace 5 = .ok (.istore_n 3, 1) := dz1 (k := 5) (m := 1) dzb1_cX10_refusedPlace_0 di_50 (Nat.zero_lt_succ _) rfl
theorem dX10_refusedPlace_6 : decode cX10_refusedPlace 6 = .ok (.iload_n 3, 1) := dz1 (k := 6) (m := 1) dzb1_cX10_refusedPlace_0 di_3 (Nat.zero_lt_succ _) rfl
theorem dX10_refusedPlace_7 : decode cX10_refusedPlace 7 = .ok (.ifCond .eq 5, 3) := dz1 (k := 7) (m := 3) dzb1_cX10_refusedPlace_0 di_236 (Nat.zero_lt_succ _) rfl
theorem dX10_refusedPlace_10 : decode cX10_refusedPlace 10 = .ok (.iload_n 3, 1) := dz1 (k := 10) (m := 1) dzb1_cX10_refusedPlace_0 di_3 (Nat.zero_lt_succ _) rfl
theorem dX10_refusedPlace_11 : decode cX10_refusedPlace 11 = .ok (.ireturn, 1) := dz1 (k := 11) (m := 1) dzb1_cX10_refusedPlace_0 di_13 (Nat.zero_lt_succ _) rfl
theorem dX10_refusedPlace_12 : decode cX10_refusedPlace 12 = .ok (.iload_n 2, 1) := dz1 (k := 12) (m := 1) dzb1_cX10_refusedPlace_0 di_28 (Nat.zero_lt_succ _) rfl
theorem dX10_refusedPlace_13 : decode cX10_refusedPlace 13 = .ok (.ifCond .lt 13, 3) := dz1 (k := 13) (m := 3) dzb1_cX10_refusedPlace_0 di_259 (Nat.zero_lt_succ _) rfl
theorem dX10_refusedPlace_16 : decode cX10_refusedPlace 16 = .ok (.iload_n 2, 1) := dz1 (k := 16) (m := 1) dzb1_cX10_refusedPlace_0 di_28 (Nat.zero_lt_succ _) rfl
theorem dX10_refusedPlace_17 : decode cX10_refusedPlace 17 = .ok (.aload_n 0, 1) := dz1 (k := 17) (m := 1) dzb1_cX10_refusedPlace_0 di_0 (Nat.zero_lt_succ _) rfl
theorem dX10_refusedPlace_18 : decode cX10_refusedPlace 18 = .ok (.getfield 14, 3) := dz1 (k := 18) (m := 3) dzb1_cX10_refusedPlace_0 di_220 (Nat.zero_lt_succ _) rfl
theorem dX10_refusedPlace_21 : decode cX10_refusedPlace 21 = .ok (.iload_n 1, 1) := dz1 (k := 21) (m := 1) dzb1_cX10_refusedPlace_0 di_11 (Nat.zero_lt_succ _) rfl
theorem dX10_refusedPlace_22 : decode cX10_refusedPlace 22 = .ok (.iaload, 1) := dz1 (k := 22) (m := 1) dzb1_cX10_refusedPlace_0 di_30 (Nat.zero_lt_succ _) rfl
theorem dX10_refusedPlace_23 : decode cX10_refusedPlace 23 = .ok (.if_icmp .lt 11, 3) := dz1 (k := 23) (m := 3) dzb1_cX10_refusedPlace_0 di_415 (Nat.zero_lt_succ _) rfl
theorem dX10_refusedPlace_26 : decode cX10_refusedPlace 26 = .ok (.aload_n 0, 1) := dz1 (k := 26) (m := 1) dzb1_cX10_refusedPlace_0 di_0 (Nat.zero_lt_succ _) rfl
theorem dX10_refusedPlace_27 : decode cX10_refusedPlace 27 = .ok (.iconst 2, 1) := dz1 (k := 27) (m := 1) dzb1_cX10_refusedPlace_0 di_6 (Nat.zero_lt_succ _) rfl
theorem dX10_refusedPlace_28 : decode cX10_refusedPlace 28 = .ok (.invokevirtual 91, 3) := dz1 (k := 28) (m := 3) dzb1_cX10_refusedPlace_0 di_232 (Nat.zero_lt_succ _) rfl
theorem dX10_refusedPlace_31 : decode cX10_refusedPlace 31 = .ok (.goto 4, 3) := dz1 (k := 31) (m := 3) dzb1_cX10_refusedPlace_0 di_49 (Nat.zero_lt_succ _) rfl
set_option maxRecDepth 100000 in
theorem dzb1_cX10_refusedPlace_32 : DzLies cX10_refusedPlace (.mk ⟨[0x00, 0x04, 0x03, 0xac]⟩) 32 := dz_lies (m := 4) (Nat.zero_lt_succ _) rfl
theorem dX10_refusedPlace_34 : decode cX10_refusedPlace 34 = .ok (.iconst 0, 1) := dz1 (k := 2) (m := 1) dzb1_cX10_refusedPlace_32 di_8 (Nat.zero_lt_succ _) rfl
theorem dX10_refusedPlace_35 : decode cX10_refusedPlace 35 = .ok (.ireturn, 1) := dz1 (k := 3) (m := 1) dzb1_cX10_refusedPlace_32 di_13 (Nat.zero_lt_succ _) rfl
set_option maxRecDepth 100000 in
theorem dzb1_cX10_refusedText_0 : DzLies cX10_refusedText (.mk ⟨[0x2a, 0x1b, 0xb6, 0x00, 0x73, 0x9a, 0x00, 0x05, 0x02, 0xac, 0x2a, 0xb4, 0x00, 0x17, 0x1b, 0x2e, 0x9c, 0x00, 0x0b, 0x2a, 0x04, 0xb6, 0x00, 0x5b, 0xa7, 0x00, 0x04, 0x03, 0xac]⟩) 0 := dz_lies (m := 29) (Nat.zero_lt_succ _) rfl
theorem dX10_refusedText_0 : decode cX10_refusedText 0 = .ok (.aload_n 0, 1) := dz1 (k := 0) (m := 1) dzb1_cX10_refusedText_0 di_0 (Nat.zero_lt_succ _) rfl
theorem dX10_refusedText_1 : decode cX10_refusedText 1 = .ok (.iload_n 1, 1) := dz1 (k := 1) (m := 1) dzb1_cX10_refusedText_0 di_11 (Nat.zero_lt_succ _) rfl
theorem dX10_refusedText_2 : decode cX10_refusedText 2 = .ok (.invokevirtual 115, 3) := dz1 (k := 2) (m := 3) dzb1_cX10_refusedText_0 di_256 (Nat.zero_lt_succ _) rfl
theorem dX10_refusedText_5 : decode cX10_refusedText 5 = .ok (.ifCond .ne 5, 3) := dz1 (k := 5) (m := 3) dzb1_cX10_refusedText_0 di_239 (Nat.zero_lt_succ _) rfl
theorem dX10_refusedText_8 : decode cX10_refusedText 8 = .ok (.iconst (-1), 1) := dz1 (k := 8) (m := 1) dzb1_cX10_refusedText_0 di_65 (Nat.zero_lt_succ _) rfl
theorem dX10_refusedText_9 : decode cX10_refusedText 9 = .ok (.ireturn, 1) := dz1 (k := 9) (m := 1) dzb1_cX10_refusedText_0 di_13 (Nat.zero_lt_succ _) rfl
theorem dX10_refusedText_10 : decode cX10_refusedText 10 = .ok (.aload_n 0, 1) := dz1 (k := 10) (m := 1) dzb1_cX10_refusedText_0 di_0 (Nat.zero_lt_succ _) rfl
theorem dX10_refusedText_11 : decode cX10_refusedText 11 = .ok (.getfield 23, 3) := dz1 (k := 11) (m := 3) dzb1_cX10_refusedText_0 di_222 (Nat.zero_lt_succ _) rfl
theorem dX10_refusedText_14 : decode cX10_refusedText 14 = .ok (.iload_n 1, 1) := dz1 (k := 14) (m := 1) dzb1_cX10_refusedText_0 di_11 (Nat.zero_lt_succ _) rfl
theorem dX10_refusedText_15 : decode cX10_refusedText 15 = .ok (.iaload, 1) := dz1 (k := 15) (m := 1) dzb1_cX10_refusedText_0 di_30 (Nat.zero_lt_succ _) rfl
theorem dX10_refusedText_16 : decode cX10_refusedText 16 = .ok (.ifCond .ge 11, 3) := dz1 (k := 16) (m := 3) dzb1_cX10_refusedText_0 di_414 (Nat.zero_lt_succ _) rfl
theorem dX10_refusedText_19 : decode cX10_refusedText 19 = .ok (.aload_n 0, 1) := dz1 (k := 19) (m := 1) dzb1_cX10_refusedText_0 di_0 (Nat.zero_lt_succ _) rfl
theorem dX10_refusedText_20 : decode cX10_refusedText 20 = .ok (.iconst 1, 1) := dz1 (k := 20) (m := 1) dzb1_cX10_refusedText_0 di_10 (Nat.zero_lt_succ _) rfl
theorem dX10_refusedText_21 : decode cX10_refusedText 21 = .ok (.invokevirtual 91, 3) := dz1 (k := 21) (m := 3) dzb1_cX10_refusedText_0 di_232 (Nat.zero_lt_succ _) rfl
theorem dX10_refusedText_24 : decode cX10_refusedText 24 = .ok (.goto 4, 3) := dz1 (k := 24) (m := 3) dzb1_cX10_refusedText_0 di_49 (Nat.zero_lt_succ _) rfl
theorem dX10_refusedText_27 : decode cX10_refusedText 27 = .ok (.iconst 0, 1) := dz1 (k := 27) (m := 1) dzb1_cX10_refusedText_0 di_8 (Nat.zero_lt_succ _) rfl
theorem dX10_refusedText_28 : decode cX10_refusedText 28 = .ok (.ireturn, 1) := dz1 (k := 28) (m := 1) dzb1_cX10_refusedText_0 di_13 (Nat.zero_lt_succ _) rfl
set_option maxRecDepth 100000 in
theorem dzb1_cX10_reaches_0 : DzLies cX10_reaches (.mk ⟨[0x1c, 0x9b, 0x00, 0x17, 0x1c, 0x85, 0x1d, 0x85, 0x61, 0x2a, 0xb4, 0x00, 0x0e, 0x1b, 0x2e, 0x85, 0x94, 0x9d, 0x00, 0x07, 0x04, 0xa7, 0x00, 0x04, 0x03, 0xac]⟩) 0 := dz_lies (m := 26) (Nat.zero_lt_succ _) rfl
theorem dX10_reaches_0 : decode cX10_reaches 0 = .ok (.iload_n 2, 1) := dz1 (k := 0) (m := 1) dzb1_cX10_reaches_0 di_28 (Nat.zero_lt_succ _) rfl
theorem dX10_reaches_1 : decode cX10_reaches 1 = .ok (.ifCond .lt 23, 3) := dz1 (k := 1) (m := 3) dzb1_cX10_reaches_0 di_416 (Nat.zero_lt_succ _) rfl
theorem dX10_reaches_4 : decode cX10_reaches 4 = .ok (.iload_n 2, 1) := dz1 (k := 4) (m := 1) dzb1_cX10_reaches_0 di_28 (Nat.zero_lt_succ _) rfl
theorem dX10_reaches_5 : decode cX10_reaches 5 = .ok (.i2l, 1) := dz1 (k := 5) (m := 1) dzb1_cX10_reaches_0 di_250 (Nat.zero_lt_succ _) rfl
theorem dX10_reaches_6 : decode cX10_reaches 6 = .ok (.iload_n 3, 1) := dz1 (k := 6) (m := 1) dzb1_cX10_reaches_0 di_3 (Nat.zero_lt_succ _) rfl
theorem dX10_reaches_7 : decode cX10_reaches 7 = .ok (.i2l, 1) := dz1 (k := 7) (m := 1) dzb1_cX10_reaches_0 di_250 (Nat.zero_lt_succ _) rfl
theorem dX10_reaches_8 : decode cX10_reaches 8 = .ok (.ladd, 1) := dz1 (k := 8) (m := 1) dzb1_cX10_reaches_0 di_251 (Nat.zero_lt_succ _) rfl
theorem dX10_reaches_9 : decode cX10_reaches 9 = .ok (.aload_n 0, 1) := dz1 (k := 9) (m := 1) dzb1_cX10_reaches_0 di_0 (Nat.zero_lt_succ _) rfl
theorem dX10_reaches_10 : decode cX10_reaches 10 = .ok (.getfield 14, 3) := dz1 (k := 10) (m := 3) dzb1_cX10_reaches_0 di_220 (Nat.zero_lt_succ _) rfl
theorem dX10_reaches_13 : decode cX10_reaches 13 = .ok (.iload_n 1, 1) := dz1 (k := 13) (m := 1) dzb1_cX10_reaches_0 di_11 (Nat.zero_lt_succ _) rfl
theorem dX10_reaches_14 : decode cX10_reaches 14 = .ok (.iaload, 1) := dz1 (k := 14) (m := 1) dzb1_cX10_reaches_0 di_30 (Nat.zero_lt_succ _) rfl
theorem dX10_reaches_15 : decode cX10_reaches 15 = .ok (.i2l, 1) := dz1 (k := 15) (m := 1) dzb1_cX10_reaches_0 di_250 (Nat.zero_lt_succ _) rfl
theorem dX10_reaches_16 : decode cX10_reaches 16 = .ok (.lcmp, 1) := dz1 (k := 16) (m := 1) dzb1_cX10_reaches_0 di_376 (Nat.zero_lt_succ _) rfl
theorem dX10_reaches_17 : decode cX10_reaches 17 = .ok (.ifCond .gt 7, 3) := dz1 (k := 17) (m := 3) dzb1_cX10_reaches_0 di_417 (Nat.zero_lt_succ _) rfl
theorem dX10_reaches_20 : decode cX10_reaches 20 = .ok (.iconst 1, 1) := dz1 (k := 20) (m := 1) dzb1_cX10_reaches_0 di_10 (Nat.zero_lt_succ _) rfl
theorem dX10_reaches_21 : decode cX10_reaches 21 = .ok (.goto 4, 3) := dz1 (k := 21) (m := 3) dzb1_cX10_reaches_0 di_49 (Nat.zero_lt_succ _) rfl
theorem dX10_reaches_24 : decode cX10_reaches 24 = .ok (.iconst 0, 1) := dz1 (k := 24) (m := 1) dzb1_cX10_reaches_0 di_8 (Nat.zero_lt_succ _) rfl
theorem dX10_reaches_25 : decode cX10_reaches 25 = .ok (.ireturn, 1) := dz1 (k := 25) (m := 1) dzb1_cX10_reaches_0 di_13 (Nat.zero_lt_succ _) rfl
set_option maxRecDepth 100000 in
theorem dzb1_cX10_refusedPairs_0 : DzLies cX10_refusedPairs (.mk ⟨[0x2a, 0x1b, 0xb6, 0x00, 0x8a, 0x9a, 0x00, 0x05, 0x02, 0xac, 0x2a, 0x1c, 0xb6, 0x00, 0x66, 0x3e, 0x1d, 0x99, 0x00, 0x05, 0x1d, 0xac, 0x2a, 0xb4, 0x00, 0x0e, 0x1c, 0x2e, 0x36, 0x04, 0x15, 0x04]⟩) 0 := dz_lies (m := 32) (Nat.zero_lt_succ _) rfl
theorem dX10_refusedPairs_0 : decode cX10_refusedPairs 0 = .ok (.aload_n 0, 1) := dz1 (k := 0) (m := 1) dzb1_cX10_refusedPairs_0 di_0 (Nat.zero_lt_succ _) rfl
theorem dX10_refusedPairs_1 : decode cX10_refusedPairs 1 = .ok (.iload_n 1, 1) := dz1 (k := 1) (m := 1) dzb1_cX10_refusedPairs_0 di_11 (Nat.zero_lt_succ _) rfl
theorem dX10_refusedPairs_2 : decode cX10_refusedPairs 2 = .ok (.invokevirtual 138, 3) := dz1 (k := 2) (m := 3) dzb1_cX10_refusedPairs_0 di_271 (Nat.zero_lt_succ _) rfl
theorem dX10_refusedPairs_5 : decode cX10_refusedPairs 5 = .ok (.ifCond .ne 5, 3) := dz1 (k := 5) (m := 3) dzb1_cX10_refusedPairs_0 di_239 (Nat.zero_lt_succ _) rfl
theorem dX10_refusedPairs_8 : decode cX10_refusedPairs 8 = .ok (.iconst (-1), 1) := dz1 (k := 8) (m := 1) dzb1_cX10_refusedPairs_0 di_65 (Nat.zero_lt_succ _) rfl
theorem dX10_refusedPairs_9 : decode cX10_refusedPairs 9 = .ok (.ireturn, 1) := dz1 (k := 9) (m := 1) dzb1_cX10_refusedPairs_0 di_13 (Nat.zero_lt_succ _) rfl
theorem dX10_refusedPairs_10 : decode cX10_refusedPairs 10 = .ok (.aload_n 0, 1) := dz1 (k := 10) (m := 1) dzb1_cX10_refusedPairs_0 di_0 (Nat.zero_lt_succ _) rfl
theorem dX10_refusedPairs_11 : decode cX10_refusedPairs 11 = .ok (.iload_n 2, 1) := dz1 (k := 11) (m := 1) dzb1_cX10_refusedPairs_0 di_28 (Nat.zero_lt_succ _) rfl
theorem dX10_refusedPairs_12 : decode cX10_refusedPairs 12 = .ok (.invokevirtual 102, 3) := dz1 (k := 12) (m := 3) dzb1_cX10_refusedPairs_0 di_237 (Nat.zero_lt_succ _) rfl
theorem dX10_refusedPairs_15 : decode cX10_refusedPairs 15 = .ok (.istore_n 3, 1) := dz1 (k := 15) (m := 1) dzb1_cX10_refusedPairs_0 di_50 (Nat.zero_lt_succ _) rfl
theorem dX10_refusedPairs_16 : decode cX10_refusedPairs 16 = .ok (.iload_n 3, 1) := dz1 (k := 16) (m := 1) dzb1_cX10_refusedPairs_0 di_3 (Nat.zero_lt_succ _) rfl
theorem dX10_refusedPairs_17 : decode cX10_refusedPairs 17 = .ok (.ifCond .eq 5, 3) := dz1 (k := 17) (m := 3) dzb1_cX10_refusedPairs_0 di_236 (Nat.zero_lt_succ _) rfl
theorem dX10_refusedPairs_20 : decode cX10_refusedPairs 20 = .ok (.iload_n 3, 1) := dz1 (k := 20) (m := 1) dzb1_cX10_refusedPairs_0 di_3 (Nat.zero_lt_succ _) rfl
theorem dX10_refusedPairs_21 : decode cX10_refusedPairs 21 = .ok (.ireturn, 1) := dz1 (k := 21) (m := 1) dzb1_cX10_refusedPairs_0 di_13 (Nat.zero_lt_succ _) rfl
theorem dX10_refusedPairs_22 : decode cX10_refusedPairs 22 = .ok (.aload_n 0, 1) := dz1 (k := 22) (m := 1) dzb1_cX10_refusedPairs_0 di_0 (Nat.zero_lt_succ _) rfl
theorem dX10_refusedPairs_23 : decode cX10_refusedPairs 23 = .ok (.getfield 14, 3) := dz1 (k := 23) (m := 3) dzb1_cX10_refusedPairs_0 di_220 (Nat.zero_lt_succ _) rfl
theorem dX10_refusedPairs_26 : decode cX10_refusedPairs 26 = .ok (.iload_n 2, 1) := dz1 (k := 26) (m := 1) dzb1_cX10_refusedPairs_0 di_28 (Nat.zero_lt_succ _) rfl
theorem dX10_refusedPairs_27 : decode cX10_refusedPairs 27 = .ok (.iaload, 1) := dz1 (k := 27) (m := 1) dzb1_cX10_refusedPairs_0 di_30 (Nat.zero_lt_succ _) rfl
theorem dX10_refusedPairs_28 : decode cX10_refusedPairs 28 = .ok (.istore 4, 2) := dz1 (k := 28) (m := 2) dzb1_cX10_refusedPairs_0 di_51 (Nat.zero_lt_succ _) rfl
theorem dX10_refusedPairs_30 : decode cX10_refusedPairs 30 = .ok (.iload 4, 2) := dz1 (k := 30) (m := 2) dzb1_cX10_refusedPairs_0 di_52 (Nat.zero_lt_succ _) rfl
set_option maxRecDepth 100000 in
theorem dzb1_cX10_refusedPairs_32 : DzLies cX10_refusedPairs (.mk ⟨[0x05, 0x70, 0x9a, 0x00, 0x0a, 0x15, 0x04, 0x10, 0x10, 0xa4, 0x00, 0x09, 0x2a, 0x08, 0xb6, 0x00, 0x5b, 0xac, 0x03, 0x36, 0x05, 0x15, 0x05, 0x04, 0x60, 0x15, 0x04, 0xa2, 0x00, 0x38, 0x2a, 0xb4, 0x00, 0x0b]⟩) 32 := dz_lies (m := 34) (Nat.zero_lt_succ _) rfl
theorem dX10_refusedPairs_32 : decode cX10_refusedPairs 32 = .ok (.iconst 2, 1) := dz1 (k := 0) (m := 1) dzb1_cX10_refusedPairs_32 di_6 (Nat.zero_lt_succ _) rfl
theorem dX10_refusedPairs_33 : decode cX10_refusedPairs 33 = .ok (.irem, 1) := dz1 (k := 1) (m := 1) dzb1_cX10_refusedPairs_32 di_5 (Nat.zero_lt_succ _) rfl
theorem dX10_refusedPairs_34 : decode cX10_refusedPairs 34 = .ok (.ifCond .ne 10, 3) := dz1 (k := 2) (m := 3) dzb1_cX10_refusedPairs_32 di_338 (Nat.zero_lt_succ _) rfl
theorem dX10_refusedPairs_37 : decode cX10_refusedPairs 37 = .ok (.iload 4, 2) := dz1 (k := 5) (m := 2) dzb1_cX10_refusedPairs_32 di_52 (Nat.zero_lt_succ _) rfl
theorem dX10_refusedPairs_39 : decode cX10_refusedPairs 39 = .ok (.bipush 16, 2) := dz1 (k := 7) (m := 2) dzb1_cX10_refusedPairs_32 di_185 (Nat.zero_lt_succ _) rfl
theorem dX10_refusedPairs_41 : decode cX10_refusedPairs 41 = .ok (.if_icmp .le 9, 3) := dz1 (k := 9) (m := 3) dzb1_cX10_refusedPairs_32 di_324 (Nat.zero_lt_succ _) rfl
theorem dX10_refusedPairs_44 : decode cX10_refusedPairs 44 = .ok (.aload_n 0, 1) := dz1 (k := 12) (m := 1) dzb1_cX10_refusedPairs_32 di_0 (Nat.zero_lt_succ _) rfl
theorem dX10_refusedPairs_45 : decode cX10_refusedPairs 45 = .ok (.iconst 5, 1) := dz1 (k := 13) (m := 1) dzb1_cX10_refusedPairs_32 di_145 (Nat.zero_lt_succ _) rfl
theorem dX10_refusedPairs_46 : decode cX10_refusedPairs 46 = .ok (.invokevirtual 91, 3) := dz1 (k := 14) (m := 3) dzb1_cX10_refusedPairs_32 di_232 (Nat.zero_lt_succ _) rfl
theorem dX10_refusedPairs_49 : decode cX10_refusedPairs 49 = .ok (.ireturn, 1) := dz1 (k := 17) (m := 1) dzb1_cX10_refusedPairs_32 di_13 (Nat.zero_lt_succ _) rfl
theorem dX10_refusedPairs_50 : decode cX10_refusedPairs 50 = .ok (.iconst 0, 1) := dz1 (k := 18) (m := 1) dzb1_cX10_refusedPairs_32 di_8 (Nat.zero_lt_succ _) rfl
theorem dX10_refusedPairs_51 : decode cX10_refusedPairs 51 = .ok (.istore 5, 2) := dz1 (k := 19) (m := 2) dzb1_cX10_refusedPairs_32 di_100 (Nat.zero_lt_succ _) rfl
theorem dX10_refusedPairs_53 : decode cX10_refusedPairs 53 = .ok (.iload 5, 2) := dz1 (k := 21) (m := 2) dzb1_cX10_refusedPairs_32 di_101 (Nat.zero_lt_succ _) rfl
theorem dX10_refusedPairs_55 : decode cX10_refusedPairs 55 = .ok (.iconst 1, 1) := dz1 (k := 23) (m := 1) dzb1_cX10_refusedPairs_32 di_10 (Nat.zero_lt_succ _) rfl
theorem dX10_refusedPairs_56 : decode cX10_refusedPairs 56 = .ok (.iadd, 1) := dz1 (k := 24) (m := 1) dzb1_cX10_refusedPairs_32 di_24 (Nat.zero_lt_succ _) rfl
theorem dX10_refusedPairs_57 : decode cX10_refusedPairs 57 = .ok (.iload 4, 2) := dz1 (k := 25) (m := 2) dzb1_cX10_refusedPairs_32 di_52 (Nat.zero_lt_succ _) rfl
theorem dX10_refusedPairs_59 : decode cX10_refusedPairs 59 = .ok (.if_icmp .ge 56, 3) := dz1 (k := 27) (m := 3) dzb1_cX10_refusedPairs_32 di_418 (Nat.zero_lt_succ _) rfl
theorem dX10_refusedPairs_62 : decode cX10_refusedPairs 62 = .ok (.aload_n 0, 1) := dz1 (k := 30) (m := 1) dzb1_cX10_refusedPairs_32 di_0 (Nat.zero_lt_succ _) rfl
theorem dX10_refusedPairs_63 : decode cX10_refusedPairs 63 = .ok (.getfield 11, 3) := dz1 (k := 31) (m := 3) dzb1_cX10_refusedPairs_32 di_233 (Nat.zero_lt_succ _) rfl
set_option maxRecDepth 100000 in
theorem dzb1_cX10_refusedPairs_64 : DzLies cX10_refusedPairs (.mk ⟨[0x00, 0x0b, 0x1c, 0x32, 0x15, 0x05, 0x04, 0x60, 0x2e, 0x36, 0x06, 0x2a, 0x2a, 0xb4, 0x00, 0x0b, 0x1c, 0x32, 0x15, 0x05, 0x2e, 0xb6, 0x00, 0xbc, 0x99, 0x00, 0x0f, 0x15, 0x06, 0x9b, 0x00, 0x0a]⟩) 64 := dz_lies (m := 32) (Nat.zero_lt_succ _) rfl
theorem dX10_refusedPairs_66 : decode cX10_refusedPairs 66 = .ok (.iload_n 2, 1) := dz1 (k := 2) (m := 1) dzb1_cX10_refusedPairs_64 di_28 (Nat.zero_lt_succ _) rfl
theorem dX10_refusedPairs_67 : decode cX10_refusedPairs 67 = .ok (.aaload, 1) := dz1 (k := 3) (m := 1) dzb1_cX10_refusedPairs_64 di_130 (Nat.zero_lt_succ _) rfl
theorem dX10_refusedPairs_68 : decode cX10_refusedPairs 68 = .ok (.iload 5, 2) := dz1 (k := 4) (m := 2) dzb1_cX10_refusedPairs_64 di_101 (Nat.zero_lt_succ _) rfl
theorem dX10_refusedPairs_70 : decode cX10_refusedPairs 70 = .ok (.iconst 1, 1) := dz1 (k := 6) (m := 1) dzb1_cX10_refusedPairs_64 di_10 (Nat.zero_lt_succ _) rfl
theorem dX10_refusedPairs_71 : decode cX10_refusedPairs 71 = .ok (.iadd, 1) := dz1 (k := 7) (m := 1) dzb1_cX10_refusedPairs_64 di_24 (Nat.zero_lt_succ _) rfl
theorem dX10_refusedPairs_72 : decode cX10_refusedPairs 72 = .ok (.iaload, 1) := dz1 (k := 8) (m := 1) dzb1_cX10_refusedPairs_64 di_30 (Nat.zero_lt_succ _) rfl
theorem dX10_refusedPairs_73 : decode cX10_refusedPairs 73 = .ok (.istore 6, 2) := dz1 (k := 9) (m := 2) dzb1_cX10_refusedPairs_64 di_114 (Nat.zero_lt_succ _) rfl
theorem dX10_refusedPairs_75 : decode cX10_refusedPairs 75 = .ok (.aload_n 0, 1) := dz1 (k := 11) (m := 1) dzb1_cX10_refusedPairs_64 di_0 (Nat.zero_lt_succ _) rfl
theorem dX10_refusedPairs_76 : decode cX10_refusedPairs 76 = .ok (.aload_n 0, 1) := dz1 (k := 12) (m := 1) dzb1_cX10_refusedPairs_64 di_0 (Nat.zero_lt_succ _) rfl
theorem dX10_refusedPairs_77 : decode cX10_refusedPairs 77 = .ok (.getfield 11, 3) := dz1 (k := 13) (m := 3) dzb1_cX10_refusedPairs_64 di_233 (Nat.zero_lt_succ _) rfl
theorem dX10_refusedPairs_80 : decode cX10_refusedPairs 80 = .ok (.iload_n 2, 1) := dz1 (k := 16) (m := 1) dzb1_cX10_refusedPairs_64 di_28 (Nat.zero_lt_succ _) rfl
theorem dX10_refusedPairs_81 : decode cX10_refusedPairs 81 = .ok (.aaload, 1) := dz1 (k := 17) (m := 1) dzb1_cX10_refusedPairs_64 di_130 (Nat.zero_lt_succ _) rfl
theorem dX10_refusedPairs_82 : decode cX10_refusedPairs 82 = .ok (.iload 5, 2) := dz1 (k := 18) (m := 2) dzb1_cX10_refusedPairs_64 di_101 (Nat.zero_lt_succ _) rfl
theorem dX10_refusedPairs_84 : decode cX10_refusedPairs 84 = .ok (.iaload, 1) := dz1 (k := 20) (m := 1) dzb1_cX10_refusedPairs_64 di_30 (Nat.zero_lt_succ _) rfl
theorem dX10_refusedPairs_85 : decode cX10_refusedPairs 85 = .ok (.invokevirtual 188, 3) := dz1 (k := 21) (m := 3) dzb1_cX10_refusedPairs_64 di_305 (Nat.zero_lt_succ _) rfl
theorem dX10_refusedPairs_88 : decode cX10_refusedPairs 88 = .ok (.ifCond .eq 15, 3) := dz1 (k := 24) (m := 3) dzb1_cX10_refusedPairs_64 di_242 (Nat.zero_lt_succ _) rfl
theorem dX10_refusedPairs_91 : decode cX10_refusedPairs 91 = .ok (.iload 6, 2) := dz1 (k := 27) (m := 2) dzb1_cX10_refusedPairs_64 di_115 (Nat.zero_lt_succ _) rfl
theorem dX10_refusedPairs_93 : decode cX10_refusedPairs 93 = .ok (.ifCond .lt 10, 3) := dz1 (k := 29) (m := 3) dzb1_cX10_refusedPairs_64 di_321 (Nat.zero_lt_succ _) rfl
set_option maxRecDepth 100000 in
theorem dzb1_cX10_refusedPairs_96 : DzLies cX10_refusedPairs (.mk ⟨[0x15, 0x06, 0x10, 0x06, 0xa4, 0x00, 0x09, 0x2a, 0x06, 0xb6, 0x00, 0x5b, 0xac, 0x84, 0x05, 0x02, 0xa7, 0xff, 0xc5, 0x03, 0xac]⟩) 96 := dz_lies (m := 21) (Nat.zero_lt_succ _) rfl
theorem dX10_refusedPairs_96 : decode cX10_refusedPairs 96 = .ok (.iload 6, 2) := dz1 (k := 0) (m := 2) dzb1_cX10_refusedPairs_96 di_115 (Nat.zero_lt_succ _) rfl
theorem dX10_refusedPairs_98 : decode cX10_refusedPairs 98 = .ok (.bipush 6, 2) := dz1 (k := 2) (m := 2) dzb1_cX10_refusedPairs_96 di_86 (Nat.zero_lt_succ _) rfl
theorem dX10_refusedPairs_100 : decode cX10_refusedPairs 100 = .ok (.if_icmp .le 9, 3) := dz1 (k := 4) (m := 3) dzb1_cX10_refusedPairs_96 di_324 (Nat.zero_lt_succ _) rfl
theorem dX10_refusedPairs_103 : decode cX10_refusedPairs 103 = .ok (.aload_n 0, 1) := dz1 (k := 7) (m := 1) dzb1_cX10_refusedPairs_96 di_0 (Nat.zero_lt_succ _) rfl
theorem dX10_refusedPairs_104 : decode cX10_refusedPairs 104 = .ok (.iconst 3, 1) := dz1 (k := 8) (m := 1) dzb1_cX10_refusedPairs_96 di_4 (Nat.zero_lt_succ _) rfl
theorem dX10_refusedPairs_105 : decode cX10_refusedPairs 105 = .ok (.invokevirtual 91, 3) := dz1 (k := 9) (m := 3) dzb1_cX10_refusedPairs_96 di_232 (Nat.zero_lt_succ _) rfl
theorem dX10_refusedPairs_108 : decode cX10_refusedPairs 108 = .ok (.ireturn, 1) := dz1 (k := 12) (m := 1) dzb1_cX10_refusedPairs_96 di_13 (Nat.zero_lt_succ _) rfl
theorem dX10_refusedPairs_109 : decode cX10_refusedPairs 109 = .ok (.iinc 5 2, 3) := dz1 (k := 13) (m := 3) dzb1_cX10_refusedPairs_96 di_419 (Nat.zero_lt_succ _) rfl
theorem dX10_refusedPairs_112 : decode cX10_refusedPairs 112 = .ok (.goto (-59), 3) := dz1 (k := 16) (m := 3) dzb1_cX10_refusedPairs_96 di_408 (Nat.zero_lt_succ _) rfl
theorem dX10_refusedPairs_115 : decode cX10_refusedPairs 115 = .ok (.iconst 0, 1) := dz1 (k := 19) (m := 1) dzb1_cX10_refusedPairs_96 di_8 (Nat.zero_lt_succ _) rfl
theorem dX10_refusedPairs_116 : decode cX10_refusedPairs 116 = .ok (.ireturn, 1) := dz1 (k := 20) (m := 1) dzb1_cX10_refusedPairs_96 di_13 (Nat.zero_lt_succ _) rfl
set_option maxRecDepth 100000 in
theorem dzb1_cX10_ofPlayer_0 : DzLies cX10_ofPlayer (.mk ⟨[0x2a, 0xb4, 0x00, 0x24, 0x1b, 0xb6, 0x00, 0x96, 0x2a, 0xb4, 0x00, 0x2d, 0xb4, 0x00, 0x9c, 0x1b, 0x2e, 0xb6, 0x01, 0x3a, 0x3e, 0x1c]⟩) 0 := dz_lies (m := 22) (Nat.zero_lt_succ _) rfl
theorem dX10_ofPlayer_0 : decode cX10_ofPlayer 0 = .ok (.aload_n 0, 1) := dz1 (k := 0) (m := 1) dzb1_cX10_ofPlayer_0 di_0 (Nat.zero_lt_succ _) rfl
theorem dX10_ofPlayer_1 : decode cX10_ofPlayer 1 = .ok (.getfield 36, 3) := dz1 (k := 1) (m := 3) dzb1_cX10_ofPlayer_0 di_205 (Nat.zero_lt_succ _) rfl
theorem dX10_ofPlayer_4 : decode cX10_ofPlayer 4 = .ok (.iload_n 1, 1) := dz1 (k := 4) (m := 1) dzb1_cX10_ofPlayer_0 di_11 (Nat.zero_lt_succ _) rfl
theorem dX10_ofPlayer_5 : decode cX10_ofPlayer 5 = .ok (.invokevirtual 150, 3) := dz1 (k := 5) (m := 3) dzb1_cX10_ofPlayer_0 di_279 (Nat.zero_lt_succ _) rfl
theorem dX10_ofPlayer_8 : decode cX10_ofPlayer 8 = .ok (.aload_n 0, 1) := dz1 (k := 8) (m := 1) dzb1_cX10_ofPlayer_0 di_0 (Nat.zero_lt_succ _) rfl
theorem dX10_ofPlayer_9 : decode cX10_ofPlayer 9 = .ok (.getfield 45, 3) := dz1 (k := 9) (m := 3) dzb1_cX10_ofPlayer_0 di_153 (Nat.zero_lt_succ _) rfl
theorem dX10_ofPlayer_12 : decode cX10_ofPlayer 12 = .ok (.getfield 156, 3) := dz1 (k := 12) (m := 3) dzb1_cX10_ofPlayer_0 di_288 (Nat.zero_lt_succ _) rfl
theorem dX10_ofPlayer_15 : decode cX10_ofPlayer 15 = .ok (.iload_n 1, 1) := dz1 (k := 15) (m := 1) dzb1_cX10_ofPlayer_0 di_11 (Nat.zero_lt_succ _) rfl
theorem dX10_ofPlayer_16 : decode cX10_ofPlayer 16 = .ok (.iaload, 1) := dz1 (k := 16) (m := 1) dzb1_cX10_ofPlayer_0 di_30 (Nat.zero_lt_succ _) rfl
theorem dX10_ofPlayer_17 : decode cX10_ofPlayer 17 = .ok (.invokevirtual 314, 3) := dz1 (k := 17) (m := 3) dzb1_cX10_ofPlayer_0 di_420 (Nat.zero_lt_succ _) rfl
theorem dX10_ofPlayer_20 : decode cX10_ofPlayer 20 = .ok (.istore_n 3, 1) := dz1 (k := 20) (m := 1) dzb1_cX10_ofPlayer_0 di_50 (Nat.zero_lt_succ _) rfl
theorem dX10_ofPlayer_21 : decode cX10_ofPlayer 21 = .ok (.iload_n 2, 1) := dz1 (k := 21) (m := 1) dzb1_cX10_ofPlayer_0 di_28 (Nat.zero_lt_succ _) rfl
theorem dX10_ofPlayer_22 : decode cX10_ofPlayer 22 = .ok (.tableswitch 72 0 3 #[30, 40, 50, 62], 30) := by decide +kernel
set_option maxRecDepth 100000 in
theorem dzb1_cX10_ofPlayer_32 : DzLies cX10_ofPlayer (.mk ⟨[0x00, 0x00, 0x00, 0x03, 0x00, 0x00, 0x00, 0x1e, 0x00, 0x00, 0x00, 0x28, 0x00, 0x00, 0x00, 0x32, 0x00, 0x00, 0x00, 0x3e, 0x2a, 0xb4, 0x00, 0x24, 0xb4, 0x00, 0xfa, 0x1b, 0x2e, 0xac, 0x2a, 0xb4, 0x00, 0x2d]⟩) 32 := dz_lies (m := 34) (Nat.zero_lt_succ _) rfl
theorem dX10_ofPlayer_52 : decode cX10_ofPlayer 52 = .ok (.aload_n 0, 1) := dz1 (k := 20) (m := 1) dzb1_cX10_ofPlayer_32 di_0 (Nat.zero_lt_succ _) rfl
theorem dX10_ofPlayer_53 : decode cX10_ofPlayer 53 = .ok (.getfield 36, 3) := dz1 (k := 21) (m := 3) dzb1_cX10_ofPlayer_32 di_205 (Nat.zero_lt_succ _) rfl
theorem dX10_ofPlayer_56 : decode cX10_ofPlayer 56 = .ok (.getfield 250, 3) := dz1 (k := 24) (m := 3) dzb1_cX10_ofPlayer_32 di_354 (Nat.zero_lt_succ _) rfl
theorem dX10_ofPlayer_59 : decode cX10_ofPlayer 59 = .ok (.iload_n 1, 1) := dz1 (k := 27) (m := 1) dzb1_cX10_ofPlayer_32 di_11 (Nat.zero_lt_succ _) rfl
theorem dX10_ofPlayer_60 : decode cX10_ofPlayer 60 = .ok (.iaload, 1) := dz1 (k := 28) (m := 1) dzb1_cX10_ofPlayer_32 di_30 (Nat.zero_lt_succ _) rfl
theorem dX10_ofPlayer_61 : decode cX10_ofPlayer 61 = .ok (.ireturn, 1) := dz1 (k := 29) (m := 1) dzb1_cX10_ofPlayer_32 di_13 (Nat.zero_lt_succ _) rfl
theorem dX10_ofPlayer_62 : decode cX10_ofPlayer 62 = .ok (.aload_n 0, 1) := dz1 (k := 30) (m := 1) dzb1_cX10_ofPlayer_32 di_0 (Nat.zero_lt_succ _) rfl
theorem dX10_ofPlayer_63 : decode cX10_ofPlayer 63 = .ok (.getfield 45, 3) := dz1 (k := 31) (m := 3) dzb1_cX10_ofPlayer_32 di_153 (Nat.zero_lt_succ _) rfl
set_option maxRecDepth 100000 in
theorem dzb1_cX10_ofPlayer_64 : DzLies cX10_ofPlayer (.mk ⟨[0x00, 0x2d, 0xb4, 0x00, 0x9c, 0x1b, 0x2e, 0xac, 0x2a, 0xb4, 0x00, 0x2d, 0xb4, 0x00, 0xdf, 0x1b, 0x7a, 0x04, 0x7e, 0xac, 0x1d, 0x9a, 0x00, 0x07, 0x04, 0xa7, 0x00, 0x04, 0x03, 0xac, 0x1d, 0xac]⟩) 64 := dz_lies (m := 32) (Nat.zero_lt_succ _) rfl
theorem dX10_ofPlayer_66 : decode cX10_ofPlayer 66 = .ok (.getfield 156, 3) := dz1 (k := 2) (m := 3) dzb1_cX10_ofPlayer_64 di_288 (Nat.zero_lt_succ _) rfl
theorem dX10_ofPlayer_69 : decode cX10_ofPlayer 69 = .ok (.iload_n 1, 1) := dz1 (k := 5) (m := 1) dzb1_cX10_ofPlayer_64 di_11 (Nat.zero_lt_succ _) rfl
theorem dX10_ofPlayer_70 : decode cX10_ofPlayer 70 = .ok (.iaload, 1) := dz1 (k := 6) (m := 1) dzb1_cX10_ofPlayer_64 di_30 (Nat.zero_lt_succ _) rfl
theorem dX10_ofPlayer_71 : decode cX10_ofPlayer 71 = .ok (.ireturn, 1) := dz1 (k := 7) (m := 1) dzb1_cX10_ofPlayer_64 di_13 (Nat.zero_lt_succ _) rfl
theorem dX10_ofPlayer_72 : decode cX10_ofPlayer 72 = .ok (.aload_n 0, 1) := dz1 (k := 8) (m := 1) dzb1_cX10_ofPlayer_64 di_0 (Nat.zero_lt_succ _) rfl
theorem dX10_ofPlayer_73 : decode cX10_ofPlayer 73 = .ok (.getfield 45, 3) := dz1 (k := 9) (m := 3) dzb1_cX10_ofPlayer_64 di_153 (Nat.zero_lt_succ _) rfl
theorem dX10_ofPlayer_76 : decode cX10_ofPlayer 76 = .ok (.getfield 223, 3) := dz1 (k := 12) (m := 3) dzb1_cX10_ofPlayer_64 di_333 (Nat.zero_lt_succ _) rfl
theorem dX10_ofPlayer_79 : decode cX10_ofPlayer 79 = .ok (.iload_n 1, 1) := dz1 (k := 15) (m := 1) dzb1_cX10_ofPlayer_64 di_11 (Nat.zero_lt_succ _) rfl
theorem dX10_ofPlayer_80 : decode cX10_ofPlayer 80 = .ok (.ishr, 1) := dz1 (k := 16) (m := 1) dzb1_cX10_ofPlayer_64 di_47 (Nat.zero_lt_succ _) rfl
theorem dX10_ofPlayer_81 : decode cX10_ofPlayer 81 = .ok (.iconst 1, 1) := dz1 (k := 17) (m := 1) dzb1_cX10_ofPlayer_64 di_10 (Nat.zero_lt_succ _) rfl
theorem dX10_ofPlayer_82 : decode cX10_ofPlayer 82 = .ok (.iand, 1) := dz1 (k := 18) (m := 1) dzb1_cX10_ofPlayer_64 di_48 (Nat.zero_lt_succ _) rfl
theorem dX10_ofPlayer_83 : decode cX10_ofPlayer 83 = .ok (.ireturn, 1) := dz1 (k := 19) (m := 1) dzb1_cX10_ofPlayer_64 di_13 (Nat.zero_lt_succ _) rfl
theorem dX10_ofPlayer_84 : decode cX10_ofPlayer 84 = .ok (.iload_n 3, 1) := dz1 (k := 20) (m := 1) dzb1_cX10_ofPlayer_64 di_3 (Nat.zero_lt_succ _) rfl
theorem dX10_ofPlayer_85 : decode cX10_ofPlayer 85 = .ok (.ifCond .ne 7, 3) := dz1 (k := 21) (m := 3) dzb1_cX10_ofPlayer_64 di_37 (Nat.zero_lt_succ _) rfl
theorem dX10_ofPlayer_88 : decode cX10_ofPlayer 88 = .ok (.iconst 1, 1) := dz1 (k := 24) (m := 1) dzb1_cX10_ofPlayer_64 di_10 (Nat.zero_lt_succ _) rfl
theorem dX10_ofPlayer_89 : decode cX10_ofPlayer 89 = .ok (.goto 4, 3) := dz1 (k := 25) (m := 3) dzb1_cX10_ofPlayer_64 di_49 (Nat.zero_lt_succ _) rfl
theorem dX10_ofPlayer_92 : decode cX10_ofPlayer 92 = .ok (.iconst 0, 1) := dz1 (k := 28) (m := 1) dzb1_cX10_ofPlayer_64 di_8 (Nat.zero_lt_succ _) rfl
theorem dX10_ofPlayer_93 : decode cX10_ofPlayer 93 = .ok (.ireturn, 1) := dz1 (k := 29) (m := 1) dzb1_cX10_ofPlayer_64 di_13 (Nat.zero_lt_succ _) rfl
theorem dX10_ofPlayer_94 : decode cX10_ofPlayer 94 = .ok (.iload_n 3, 1) := dz1 (k := 30) (m := 1) dzb1_cX10_ofPlayer_64 di_3 (Nat.zero_lt_succ _) rfl
theorem dX10_ofPlayer_95 : decode cX10_ofPlayer 95 = .ok (.ireturn, 1) := dz1 (k := 31) (m := 1) dzb1_cX10_ofPlayer_64 di_13 (Nat.zero_lt_succ _) rfl
set_option maxRecDepth 100000 in
theorem dzb1_cX10_doCall_0 : DzLies cX10_doCall (.mk ⟨[0x2a, 0xb4, 0x00, 0x34, 0x1b, 0xb6, 0x01, 0x3b, 0x2a, 0xb4, 0x00, 0x2d, 0x1b, 0x10, 0x0f, 0xb6, 0x00, 0xdc, 0xac]⟩) 0 := dz_lies (m := 19) (Nat.zero_lt_succ _) rfl
theorem dX10_doCall_0 : decode cX10_doCall 0 = .ok (.aload_n 0, 1) := dz1 (k := 0) (m := 1) dzb1_cX10_doCall_0 di_0 (Nat.zero_lt_succ _) rfl
theorem dX10_doCall_1 : decode cX10_doCall 1 = .ok (.getfield 52, 3) := dz1 (k := 1) (m := 3) dzb1_cX10_doCall_0 di_266 (Nat.zero_lt_succ _) rfl
theorem dX10_doCall_4 : decode cX10_doCall 4 = .ok (.iload_n 1, 1) := dz1 (k := 4) (m := 1) dzb1_cX10_doCall_0 di_11 (Nat.zero_lt_succ _) rfl
theorem dX10_doCall_5 : decode cX10_doCall 5 = .ok (.invokevirtual 315, 3) := dz1 (k := 5) (m := 3) dzb1_cX10_doCall_0 di_421 (Nat.zero_lt_succ _) rfl
theorem dX10_doCall_8 : decode cX10_doCall 8 = .ok (.aload_n 0, 1) := dz1 (k := 8) (m := 1) dzb1_cX10_doCall_0 di_0 (Nat.zero_lt_succ _) rfl
theorem dX10_doCall_9 : decode cX10_doCall 9 = .ok (.getfield 45, 3) := dz1 (k := 9) (m := 3) dzb1_cX10_doCall_0 di_153 (Nat.zero_lt_succ _) rfl
theorem dX10_doCall_12 : decode cX10_doCall 12 = .ok (.iload_n 1, 1) := dz1 (k := 12) (m := 1) dzb1_cX10_doCall_0 di_11 (Nat.zero_lt_succ _) rfl
theorem dX10_doCall_13 : decode cX10_doCall 13 = .ok (.bipush 15, 2) := dz1 (k := 13) (m := 2) dzb1_cX10_doCall_0 di_329 (Nat.zero_lt_succ _) rfl
theorem dX10_doCall_15 : decode cX10_doCall 15 = .ok (.invokevirtual 220, 3) := dz1 (k := 15) (m := 3) dzb1_cX10_doCall_0 di_330 (Nat.zero_lt_succ _) rfl
theorem dX10_doCall_18 : decode cX10_doCall 18 = .ok (.ireturn, 1) := dz1 (k := 18) (m := 1) dzb1_cX10_doCall_0 di_13 (Nat.zero_lt_succ _) rfl
set_option maxRecDepth 100000 in
theorem dzb1_cX10_doRub_0 : DzLies cX10_doRub (.mk ⟨[0x2a, 0xb4, 0x00, 0x34, 0x10, 0x10, 0x1b, 0x10, 0x06, 0x68, 0x60, 0x1c, 0x60, 0xb6, 0x01, 0x3b, 0x2a, 0xb4, 0x00, 0x2d, 0x1b, 0x1c, 0xb6, 0x01, 0x3e, 0xb1]⟩) 0 := dz_lies (m := 26) (Nat.zero_lt_succ _) rfl
theorem dX10_doRub_0 : decode cX10_doRub 0 = .ok (.aload_n 0, 1) := dz1 (k := 0) (m := 1) dzb1_cX10_doRub_0 di_0 (Nat.zero_lt_succ _) rfl
theorem dX10_doRub_1 : decode cX10_doRub 1 = .ok (.getfield 52, 3) := dz1 (k := 1) (m := 3) dzb1_cX10_doRub_0 di_266 (Nat.zero_lt_succ _) rfl
theorem dX10_doRub_4 : decode cX10_doRub 4 = .ok (.bipush 16, 2) := dz1 (k := 4) (m := 2) dzb1_cX10_doRub_0 di_185 (Nat.zero_lt_succ _) rfl
theorem dX10_doRub_6 : decode cX10_doRub 6 = .ok (.iload_n 1, 1) := dz1 (k := 6) (m := 1) dzb1_cX10_doRub_0 di_11 (Nat.zero_lt_succ _) rfl
theorem dX10_doRub_7 : decode cX10_doRub 7 = .ok (.bipush 6, 2) := dz1 (k := 7) (m := 2) dzb1_cX10_doRub_0 di_86 (Nat.zero_lt_succ _) rfl
theorem dX10_doRub_9 : decode cX10_doRub 9 = .ok (.imul, 1) := dz1 (k := 9) (m := 1) dzb1_cX10_doRub_0 di_113 (Nat.zero_lt_succ _) rfl
theorem dX10_doRub_10 : decode cX10_doRub 10 = .ok (.iadd, 1) := dz1 (k := 10) (m := 1) dzb1_cX10_doRub_0 di_24 (Nat.zero_lt_succ _) rfl
theorem dX10_doRub_11 : decode cX10_doRub 11 = .ok (.iload_n 2, 1) := dz1 (k := 11) (m := 1) dzb1_cX10_doRub_0 di_28 (Nat.zero_lt_succ _) rfl
theorem dX10_doRub_12 : decode cX10_doRub 12 = .ok (.iadd, 1) := dz1 (k := 12) (m := 1) dzb1_cX10_doRub_0 di_24 (Nat.zero_lt_succ _) rfl
theorem dX10_doRub_13 : decode cX10_doRub 13 = .ok (.invokevirtual 315, 3) := dz1 (k := 13) (m := 3) dzb1_cX10_doRub_0 di_421 (Nat.zero_lt_succ _) rfl
theorem dX10_doRub_16 : decode cX10_doRub 16 = .ok (.aload_n 0, 1) := dz1 (k := 16) (m := 1) dzb1_cX10_doRub_0 di_0 (Nat.zero_lt_succ _) rfl
theorem dX10_doRub_17 : decode cX10_doRub 17 = .ok (.getfield 45, 3) := dz1 (k := 17) (m := 3) dzb1_cX10_doRub_0 di_153 (Nat.zero_lt_succ _) rfl
theorem dX10_doRub_20 : decode cX10_doRub 20 = .ok (.iload_n 1, 1) := dz1 (k := 20) (m := 1) dzb1_cX10_doRub_0 di_11 (Nat.zero_lt_succ _) rfl
theorem dX10_doRub_21 : decode cX10_doRub 21 = .ok (.iload_n 2, 1) := dz1 (k := 21) (m := 1) dzb1_cX10_doRub_0 di_28 (Nat.zero_lt_succ _) rfl
theorem dX10_doRub_22 : decode cX10_doRub 22 = .ok (.invokevirtual 318, 3) := dz1 (k := 22) (m := 3) dzb1_cX10_doRub_0 di_422 (Nat.zero_lt_succ _) rfl
theorem dX10_doRub_25 : decode cX10_doRub 25 = .ok (.return_, 1) := dz1 (k := 25) (m := 1) dzb1_cX10_doRub_0 di_2 (Nat.zero_lt_succ _) rfl
set_option maxRecDepth 100000 in
theorem dzb1_cX10_doLot_0 : DzLies cX10_doLot (.mk ⟨[0x1b, 0x10, 0x08, 0x6c, 0x10, 0x08, 0x70, 0x10, 0x07, 0x9f, 0x00, 0x0d, 0x2a, 0xb4, 0x00, 0x2d, 0xb4, 0x01, 0x06, 0x9a, 0x00, 0x22, 0x2a, 0xb4, 0x00, 0x24, 0xb4, 0x00, 0x87, 0x9e, 0x00, 0x17]⟩) 0 := dz_lies (m := 32) (Nat.zero_lt_succ _) rfl
theorem dX10_doLot_0 : decode cX10_doLot 0 = .ok (.iload_n 1, 1) := dz1 (k := 0) (m := 1) dzb1_cX10_doLot_0 di_11 (Nat.zero_lt_succ _) rfl
theorem dX10_doLot_1 : decode cX10_doLot 1 = .ok (.bipush 8, 2) := dz1 (k := 1) (m := 2) dzb1_cX10_doLot_0 di_184 (Nat.zero_lt_succ _) rfl
theorem dX10_doLot_3 : decode cX10_doLot 3 = .ok (.idiv, 1) := dz1 (k := 3) (m := 1) dzb1_cX10_doLot_0 di_423 (Nat.zero_lt_succ _) rfl
theorem dX10_doLot_4 : decode cX10_doLot 4 = .ok (.bipush 8, 2) := dz1 (k := 4) (m := 2) dzb1_cX10_doLot_0 di_184 (Nat.zero_lt_succ _) rfl
theorem dX10_doLot_6 : decode cX10_doLot 6 = .ok (.irem, 1) := dz1 (k := 6) (m := 1) dzb1_cX10_doLot_0 di_5 (Nat.zero_lt_succ _) rfl
theorem dX10_doLot_7 : decode cX10_doLot 7 = .ok (.bipush 7, 2) := dz1 (k := 7) (m := 2) dzb1_cX10_doLot_0 di_83 (Nat.zero_lt_succ _) rfl
theorem dX10_doLot_9 : decode cX10_doLot 9 = .ok (.if_icmp .eq 13, 3) := dz1 (k := 9) (m := 3) dzb1_cX10_doLot_0 di_424 (Nat.zero_lt_succ _) rfl
theorem dX10_doLot_12 : decode cX10_doLot 12 = .ok (.aload_n 0, 1) := dz1 (k := 12) (m := 1) dzb1_cX10_doLot_0 di_0 (Nat.zero_lt_succ _) rfl
theorem dX10_doLot_13 : decode cX10_doLot 13 = .ok (.getfield 45, 3) := dz1 (k := 13) (m := 3) dzb1_cX10_doLot_0 di_153 (Nat.zero_lt_succ _) rfl
theorem dX10_doLot_16 : decode cX10_doLot 16 = .ok (.getfield 262, 3) := dz1 (k := 16) (m := 3) dzb1_cX10_doLot_0 di_359 (Nat.zero_lt_succ _) rfl
theorem dX10_doLot_19 : decode cX10_doLot 19 = .ok (.ifCond .ne 34, 3) := dz1 (k := 19) (m := 3) dzb1_cX10_doLot_0 di_425 (Nat.zero_lt_succ _) rfl
theorem dX10_doLot_22 : decode cX10_doLot 22 = .ok (.aload_n 0, 1) := dz1 (k := 22) (m := 1) dzb1_cX10_doLot_0 di_0 (Nat.zero_lt_succ _) rfl
theorem dX10_doLot_23 : decode cX10_doLot 23 = .ok (.getfield 36, 3) := dz1 (k := 23) (m := 3) dzb1_cX10_doLot_0 di_205 (Nat.zero_lt_succ _) rfl
theorem dX10_doLot_26 : decode cX10_doLot 26 = .ok (.getfield 135, 3) := dz1 (k := 26) (m := 3) dzb1_cX10_doLot_0 di_270 (Nat.zero_lt_succ _) rfl
theorem dX10_doLot_29 : decode cX10_doLot 29 = .ok (.ifCond .le 23, 3) := dz1 (k := 29) (m := 3) dzb1_cX10_doLot_0 di_426 (Nat.zero_lt_succ _) rfl
set_option maxRecDepth 100000 in
theorem dzb1_cX10_doLot_32 : DzLies cX10_doLot (.mk ⟨[0x2a, 0x1b, 0x2a, 0xb4, 0x00, 0x24, 0xb4, 0x00, 0x87, 0x70, 0x1b, 0x10, 0x40, 0x6c, 0x10, 0x06, 0x70, 0xb6, 0x00, 0xc5, 0xb1, 0x1b, 0x10, 0x0c, 0x70, 0x04, 0x60, 0x3d, 0x03, 0x3e, 0x1d, 0x10, 0x0c]⟩) 32 := dz_lies (m := 33) (Nat.zero_lt_succ _) rfl
theorem dX10_doLot_32 : decode cX10_doLot 32 = .ok (.aload_n 0, 1) := dz1 (k := 0) (m := 1) dzb1_cX10_doLot_32 di_0 (Nat.zero_lt_succ _) rfl
theorem dX10_doLot_33 : decode cX10_doLot 33 = .ok (.iload_n 1, 1) := dz1 (k := 1) (m := 1) dzb1_cX10_doLot_32 di_11 (Nat.zero_lt_succ _) rfl
theorem dX10_doLot_34 : decode cX10_doLot 34 = .ok (.aload_n 0, 1) := dz1 (k := 2) (m := 1) dzb1_cX10_doLot_32 di_0 (Nat.zero_lt_succ _) rfl
theorem dX10_doLot_35 : decode cX10_doLot 35 = .ok (.getfield 36, 3) := dz1 (k := 3) (m := 3) dzb1_cX10_doLot_32 di_205 (Nat.zero_lt_succ _) rfl
theorem dX10_doLot_38 : decode cX10_doLot 38 = .ok (.getfield 135, 3) := dz1 (k := 6) (m := 3) dzb1_cX10_doLot_32 di_270 (Nat.zero_lt_succ _) rfl
theorem dX10_doLot_41 : decode cX10_doLot 41 = .ok (.irem, 1) := dz1 (k := 9) (m := 1) dzb1_cX10_doLot_32 di_5 (Nat.zero_lt_succ _) rfl
theorem dX10_doLot_42 : decode cX10_doLot 42 = .ok (.iload_n 1, 1) := dz1 (k := 10) (m := 1) dzb1_cX10_doLot_32 di_11 (Nat.zero_lt_succ _) rfl
theorem dX10_doLot_43 : decode cX10_doLot 43 = .ok (.bipush 64, 2) := dz1 (k := 11) (m := 2) dzb1_cX10_doLot_32 di_427 (Nat.zero_lt_succ _) rfl
theorem dX10_doLot_45 : decode cX10_doLot 45 = .ok (.idiv, 1) := dz1 (k := 13) (m := 1) dzb1_cX10_doLot_32 di_423 (Nat.zero_lt_succ _) rfl
theorem dX10_doLot_46 : decode cX10_doLot 46 = .ok (.bipush 6, 2) := dz1 (k := 14) (m := 2) dzb1_cX10_doLot_32 di_86 (Nat.zero_lt_succ _) rfl
theorem dX10_doLot_48 : decode cX10_doLot 48 = .ok (.irem, 1) := dz1 (k := 16) (m := 1) dzb1_cX10_doLot_32 di_5 (Nat.zero_lt_succ _) rfl
theorem dX10_doLot_49 : decode cX10_doLot 49 = .ok (.invokevirtual 197, 3) := dz1 (k := 17) (m := 3) dzb1_cX10_doLot_32 di_313 (Nat.zero_lt_succ _) rfl
theorem dX10_doLot_52 : decode cX10_doLot 52 = .ok (.return_, 1) := dz1 (k := 20) (m := 1) dzb1_cX10_doLot_32 di_2 (Nat.zero_lt_succ _) rfl
theorem dX10_doLot_53 : decode cX10_doLot 53 = .ok (.iload_n 1, 1) := dz1 (k := 21) (m := 1) dzb1_cX10_doLot_32 di_11 (Nat.zero_lt_succ _) rfl
theorem dX10_doLot_54 : decode cX10_doLot 54 = .ok (.bipush 12, 2) := dz1 (k := 22) (m := 2) dzb1_cX10_doLot_32 di_126 (Nat.zero_lt_succ _) rfl
theorem dX10_doLot_56 : decode cX10_doLot 56 = .ok (.irem, 1) := dz1 (k := 24) (m := 1) dzb1_cX10_doLot_32 di_5 (Nat.zero_lt_succ _) rfl
theorem dX10_doLot_57 : decode cX10_doLot 57 = .ok (.iconst 1, 1) := dz1 (k := 25) (m := 1) dzb1_cX10_doLot_32 di_10 (Nat.zero_lt_succ _) rfl
theorem dX10_doLot_58 : decode cX10_doLot 58 = .ok (.iadd, 1) := dz1 (k := 26) (m := 1) dzb1_cX10_doLot_32 di_24 (Nat.zero_lt_succ _) rfl
theorem dX10_doLot_59 : decode cX10_doLot 59 = .ok (.istore_n 2, 1) := dz1 (k := 27) (m := 1) dzb1_cX10_doLot_32 di_27 (Nat.zero_lt_succ _) rfl
theorem dX10_doLot_60 : decode cX10_doLot 60 = .ok (.iconst 0, 1) := dz1 (k := 28) (m := 1) dzb1_cX10_doLot_32 di_8 (Nat.zero_lt_succ _) rfl
theorem dX10_doLot_61 : decode cX10_doLot 61 = .ok (.istore_n 3, 1) := dz1 (k := 29) (m := 1) dzb1_cX10_doLot_32 di_50 (Nat.zero_lt_succ _) rfl
theorem dX10_doLot_62 : decode cX10_doLot 62 = .ok (.iload_n 3, 1) := dz1 (k := 30) (m := 1) dzb1_cX10_doLot_32 di_3 (Nat.zero_lt_succ _) rfl
theorem dX10_doLot_63 : decode cX10_doLot 63 = .ok (.bipush 12, 2) := dz1 (k := 31) (m := 2) dzb1_cX10_doLot_32 di_126 (Nat.zero_lt_succ _) rfl
set_option maxRecDepth 100000 in
theorem dzb1_cX10_doLot_64 : DzLies cX10_doLot (.mk ⟨[0x0c, 0xa2, 0x00, 0x1b, 0x2a, 0xb4, 0x00, 0x2d, 0x1c, 0xb6, 0x00, 0xbf, 0x9a, 0x00, 0x10, 0x1c, 0x10, 0x0c, 0x70, 0x04, 0x60, 0x3d, 0x84, 0x03, 0x01, 0xa7, 0xff, 0xe5, 0x2a, 0x1c, 0xb6, 0x00, 0xc2]⟩) 64 := dz_lies (m := 33) (Nat.zero_lt_succ _) rfl
theorem dX10_doLot_65 : decode cX10_doLot 65 = .ok (.if_icmp .ge 27, 3) := dz1 (k := 1) (m := 3) dzb1_cX10_doLot_64 di_428 (Nat.zero_lt_succ _) rfl
theorem dX10_doLot_68 : decode cX10_doLot 68 = .ok (.aload_n 0, 1) := dz1 (k := 4) (m := 1) dzb1_cX10_doLot_64 di_0 (Nat.zero_lt_succ _) rfl
theorem dX10_doLot_69 : decode cX10_doLot 69 = .ok (.getfield 45, 3) := dz1 (k := 5) (m := 3) dzb1_cX10_doLot_64 di_153 (Nat.zero_lt_succ _) rfl
theorem dX10_doLot_72 : decode cX10_doLot 72 = .ok (.iload_n 2, 1) := dz1 (k := 8) (m := 1) dzb1_cX10_doLot_64 di_28 (Nat.zero_lt_succ _) rfl
theorem dX10_doLot_73 : decode cX10_doLot 73 = .ok (.invokevirtual 191, 3) := dz1 (k := 9) (m := 3) dzb1_cX10_doLot_64 di_307 (Nat.zero_lt_succ _) rfl
theorem dX10_doLot_76 : decode cX10_doLot 76 = .ok (.ifCond .ne 16, 3) := dz1 (k := 12) (m := 3) dzb1_cX10_doLot_64 di_61 (Nat.zero_lt_succ _) rfl
theorem dX10_doLot_79 : decode cX10_doLot 79 = .ok (.iload_n 2, 1) := dz1 (k := 15) (m := 1) dzb1_cX10_doLot_64 di_28 (Nat.zero_lt_succ _) rfl
theorem dX10_doLot_80 : decode cX10_doLot 80 = .ok (.bipush 12, 2) := dz1 (k := 16) (m := 2) dzb1_cX10_doLot_64 di_126 (Nat.zero_lt_succ _) rfl
theorem dX10_doLot_82 : decode cX10_doLot 82 = .ok (.irem, 1) := dz1 (k := 18) (m := 1) dzb1_cX10_doLot_64 di_5 (Nat.zero_lt_succ _) rfl
theorem dX10_doLot_83 : decode cX10_doLot 83 = .ok (.iconst 1, 1) := dz1 (k := 19) (m := 1) dzb1_cX10_doLot_64 di_10 (Nat.zero_lt_succ _) rfl
theorem dX10_doLot_84 : decode cX10_doLot 84 = .ok (.iadd, 1) := dz1 (k := 20) (m := 1) dzb1_cX10_doLot_64 di_24 (Nat.zero_lt_succ _) rfl
theorem dX10_doLot_85 : decode cX10_doLot 85 = .ok (.istore_n 2, 1) := dz1 (k := 21) (m := 1) dzb1_cX10_doLot_64 di_27 (Nat.zero_lt_succ _) rfl
theorem dX10_doLot_86 : decode cX10_doLot 86 = .ok (.iinc 3 1, 3) := dz1 (k := 22) (m := 3) dzb1_cX10_doLot_64 di_94 (Nat.zero_lt_succ _) rfl
theorem dX10_doLot_89 : decode cX10_doLot 89 = .ok (.goto (-27), 3) := dz1 (k := 25) (m := 3) dzb1_cX10_doLot_64 di_429 (Nat.zero_lt_succ _) rfl
theorem dX10_doLot_92 : decode cX10_doLot 92 = .ok (.aload_n 0, 1) := dz1 (k := 28) (m := 1) dzb1_cX10_doLot_64 di_0 (Nat.zero_lt_succ _) rfl
theorem dX10_doLot_93 : decode cX10_doLot 93 = .ok (.iload_n 2, 1) := dz1 (k := 29) (m := 1) dzb1_cX10_doLot_64 di_28 (Nat.zero_lt_succ _) rfl
theorem dX10_doLot_94 : decode cX10_doLot 94 = .ok (.invokevirtual 194, 3) := dz1 (k := 30) (m := 3) dzb1_cX10_doLot_64 di_312 (Nat.zero_lt_succ _) rfl
set_option maxRecDepth 100000 in
theorem dzb1_cX10_doLot_96 : DzLies cX10_doLot (.mk ⟨[0xc2, 0x57, 0xb1]⟩) 96 := dz_lies (m := 3) (Nat.zero_lt_succ _) rfl
theorem dX10_doLot_97 : decode cX10_doLot 97 = .ok (.pop, 1) := dz1 (k := 1) (m := 1) dzb1_cX10_doLot_96 di_331 (Nat.zero_lt_succ _) rfl
theorem dX10_doLot_98 : decode cX10_doLot 98 = .ok (.return_, 1) := dz1 (k := 2) (m := 1) dzb1_cX10_doLot_96 di_2 (Nat.zero_lt_succ _) rfl
set_option maxRecDepth 100000 in
theorem dzb1_cX10_doAgain_0 : DzLies cX10_doAgain (.mk ⟨[0x2a, 0xb4, 0x00, 0x2d, 0xb6, 0x00, 0x84, 0x03, 0x3c, 0x1b, 0x2a, 0xb4, 0x00, 0x34, 0xb4, 0x00, 0x53, 0xa2, 0x00, 0x3c, 0x2a, 0xb4, 0x00, 0x34, 0xb4, 0x01, 0x41, 0x1b, 0x2e, 0x3d, 0x1c, 0x10, 0x10]⟩) 0 := dz_lies (m := 33) (Nat.zero_lt_succ _) rfl
theorem dX10_doAgain_0 : decode cX10_doAgain 0 = .ok (.aload_n 0, 1) := dz1 (k := 0) (m := 1) dzb1_cX10_doAgain_0 di_0 (Nat.zero_lt_succ _) rfl
theorem dX10_doAgain_1 : decode cX10_doAgain 1 = .ok (.getfield 45, 3) := dz1 (k := 1) (m := 3) dzb1_cX10_doAgain_0 di_153 (Nat.zero_lt_succ _) rfl
theorem dX10_doAgain_4 : decode cX10_doAgain 4 = .ok (.invokevirtual 132, 3) := dz1 (k := 4) (m := 3) dzb1_cX10_doAgain_0 di_269 (Nat.zero_lt_succ _) rfl
theorem dX10_doAgain_7 : decode cX10_doAgain 7 = .ok (.iconst 0, 1) := dz1 (k := 7) (m := 1) dzb1_cX10_doAgain_0 di_8 (Nat.zero_lt_succ _) rfl
theorem dX10_doAgain_8 : decode cX10_doAgain 8 = .ok (.istore_n 1, 1) := dz1 (k := 8) (m := 1) dzb1_cX10_doAgain_0 di_68 (Nat.zero_lt_succ _) rfl
theorem dX10_doAgain_9 : decode cX10_doAgain 9 = .ok (.iload_n 1, 1) := dz1 (k := 9) (m := 1) dzb1_cX10_doAgain_0 di_11 (Nat.zero_lt_succ _) rfl
theorem dX10_doAgain_10 : decode cX10_doAgain 10 = .ok (.aload_n 0, 1) := dz1 (k := 10) (m := 1) dzb1_cX10_doAgain_0 di_0 (Nat.zero_lt_succ _) rfl
theorem dX10_doAgain_11 : decode cX10_doAgain 11 = .ok (.getfield 52, 3) := dz1 (k := 11) (m := 3) dzb1_cX10_doAgain_0 di_266 (Nat.zero_lt_succ _) rfl
theorem dX10_doAgain_14 : decode cX10_doAgain 14 = .ok (.getfield 83, 3) := dz1 (k := 14) (m := 3) dzb1_cX10_doAgain_0 di_309 (Nat.zero_lt_succ _) rfl
theorem dX10_doAgain_17 : decode cX10_doAgain 17 = .ok (.if_icmp .ge 60, 3) := dz1 (k := 17) (m := 3) dzb1_cX10_doAgain_0 di_406 (Nat.zero_lt_succ _) rfl
theorem dX10_doAgain_20 : decode cX10_doAgain 20 = .ok (.aload_n 0, 1) := dz1 (k := 20) (m := 1) dzb1_cX10_doAgain_0 di_0 (Nat.zero_lt_succ _) rfl
theorem dX10_doAgain_21 : decode cX10_doAgain 21 = .ok (.getfield 52, 3) := dz1 (k := 21) (m := 3) dzb1_cX10_doAgain_0 di_266 (Nat.zero_lt_succ _) rfl
theorem dX10_doAgain_24 : decode cX10_doAgain 24 = .ok (.getfield 321, 3) := dz1 (k := 24) (m := 3) dzb1_cX10_doAgain_0 di_430 (Nat.zero_lt_succ _) rfl
theorem dX10_doAgain_27 : decode cX10_doAgain 27 = .ok (.iload_n 1, 1) := dz1 (k := 27) (m := 1) dzb1_cX10_doAgain_0 di_11 (Nat.zero_lt_succ _) rfl
theorem dX10_doAgain_28 : decode cX10_doAgain 28 = .ok (.iaload, 1) := dz1 (k := 28) (m := 1) dzb1_cX10_doAgain_0 di_30 (Nat.zero_lt_succ _) rfl
theorem dX10_doAgain_29 : decode cX10_doAgain 29 = .ok (.istore_n 2, 1) := dz1 (k := 29) (m := 1) dzb1_cX10_doAgain_0 di_27 (Nat.zero_lt_succ _) rfl
theorem dX10_doAgain_30 : decode cX10_doAgain 30 = .ok (.iload_n 2, 1) := dz1 (k := 30) (m := 1) dzb1_cX10_doAgain_0 di_28 (Nat.zero_lt_succ _) rfl
theorem dX10_doAgain_31 : decode cX10_doAgain 31 = .ok (.bipush 16, 2) := dz1 (k := 31) (m := 2) dzb1_cX10_doAgain_0 di_185 (Nat.zero_lt_succ _) rfl
set_option maxRecDepth 100000 in
theorem dzb1_cX10_doAgain_32 : DzLies cX10_doAgain (.mk ⟨[0x10, 0xa2, 0x00, 0x11, 0x2a, 0xb4, 0x00, 0x2d, 0x1c, 0x10, 0x0f, 0xb6, 0x00, 0xdc, 0x57, 0xa7, 0x00, 0x18, 0x2a, 0xb4, 0x00, 0x2d, 0x1c, 0x10, 0x10, 0x64, 0x10, 0x06, 0x6c, 0x1c, 0x10, 0x10]⟩) 32 := dz_lies (m := 32) (Nat.zero_lt_succ _) rfl
theorem dX10_doAgain_33 : decode cX10_doAgain 33 = .ok (.if_icmp .ge 17, 3) := dz1 (k := 1) (m := 3) dzb1_cX10_doAgain_32 di_431 (Nat.zero_lt_succ _) rfl
theorem dX10_doAgain_36 : decode cX10_doAgain 36 = .ok (.aload_n 0, 1) := dz1 (k := 4) (m := 1) dzb1_cX10_doAgain_32 di_0 (Nat.zero_lt_succ _) rfl
theorem dX10_doAgain_37 : decode cX10_doAgain 37 = .ok (.getfield 45, 3) := dz1 (k := 5) (m := 3) dzb1_cX10_doAgain_32 di_153 (Nat.zero_lt_succ _) rfl
theorem dX10_doAgain_40 : decode cX10_doAgain 40 = .ok (.iload_n 2, 1) := dz1 (k := 8) (m := 1) dzb1_cX10_doAgain_32 di_28 (Nat.zero_lt_succ _) rfl
theorem dX10_doAgain_41 : decode cX10_doAgain 41 = .ok (.bipush 15, 2) := dz1 (k := 9) (m := 2) dzb1_cX10_doAgain_32 di_329 (Nat.zero_lt_succ _) rfl
theorem dX10_doAgain_43 : decode cX10_doAgain 43 = .ok (.invokevirtual 220, 3) := dz1 (k := 11) (m := 3) dzb1_cX10_doAgain_32 di_330 (Nat.zero_lt_succ _) rfl
theorem dX10_doAgain_46 : decode cX10_doAgain 46 = .ok (.pop, 1) := dz1 (k := 14) (m := 1) dzb1_cX10_doAgain_32 di_331 (Nat.zero_lt_succ _) rfl
theorem dX10_doAgain_47 : decode cX10_doAgain 47 = .ok (.goto 24, 3) := dz1 (k := 15) (m := 3) dzb1_cX10_doAgain_32 di_432 (Nat.zero_lt_succ _) rfl
theorem dX10_doAgain_50 : decode cX10_doAgain 50 = .ok (.aload_n 0, 1) := dz1 (k := 18) (m := 1) dzb1_cX10_doAgain_32 di_0 (Nat.zero_lt_succ _) rfl
theorem dX10_doAgain_51 : decode cX10_doAgain 51 = .ok (.getfield 45, 3) := dz1 (k := 19) (m := 3) dzb1_cX10_doAgain_32 di_153 (Nat.zero_lt_succ _) rfl
theorem dX10_doAgain_54 : decode cX10_doAgain 54 = .ok (.iload_n 2, 1) := dz1 (k := 22) (m := 1) dzb1_cX10_doAgain_32 di_28 (Nat.zero_lt_succ _) rfl
theorem dX10_doAgain_55 : decode cX10_doAgain 55 = .ok (.bipush 16, 2) := dz1 (k := 23) (m := 2) dzb1_cX10_doAgain_32 di_185 (Nat.zero_lt_succ _) rfl
theorem dX10_doAgain_57 : decode cX10_doAgain 57 = .ok (.isub, 1) := dz1 (k := 25) (m := 1) dzb1_cX10_doAgain_32 di_14 (Nat.zero_lt_succ _) rfl
theorem dX10_doAgain_58 : decode cX10_doAgain 58 = .ok (.bipush 6, 2) := dz1 (k := 26) (m := 2) dzb1_cX10_doAgain_32 di_86 (Nat.zero_lt_succ _) rfl
theorem dX10_doAgain_60 : decode cX10_doAgain 60 = .ok (.idiv, 1) := dz1 (k := 28) (m := 1) dzb1_cX10_doAgain_32 di_423 (Nat.zero_lt_succ _) rfl
theorem dX10_doAgain_61 : decode cX10_doAgain 61 = .ok (.iload_n 2, 1) := dz1 (k := 29) (m := 1) dzb1_cX10_doAgain_32 di_28 (Nat.zero_lt_succ _) rfl
theorem dX10_doAgain_62 : decode cX10_doAgain 62 = .ok (.bipush 16, 2) := dz1 (k := 30) (m := 2) dzb1_cX10_doAgain_32 di_185 (Nat.zero_lt_succ _) rfl
set_option maxRecDepth 100000 in
theorem dzb1_cX10_doAgain_64 : DzLies cX10_doAgain (.mk ⟨[0x64, 0x10, 0x06, 0x70, 0xb6, 0x01, 0x3e, 0x84, 0x01, 0x01, 0xa7, 0xff, 0xbf, 0xb1]⟩) 64 := dz_lies (m := 14) (Nat.zero_lt_succ _) rfl
theorem dX10_doAgain_64 : decode cX10_doAgain 64 = .ok (.isub, 1) := dz1 (k := 0) (m := 1) dzb1_cX10_doAgain_64 di_14 (Nat.zero_lt_succ _) rfl
theorem dX10_doAgain_65 : decode cX10_doAgain 65 = .ok (.bipush 6, 2) := dz1 (k := 1) (m := 2) dzb1_cX10_doAgain_64 di_86 (Nat.zero_lt_succ _) rfl
theorem dX10_doAgain_67 : decode cX10_doAgain 67 = .ok (.irem, 1) := dz1 (k := 3) (m := 1) dzb1_cX10_doAgain_64 di_5 (Nat.zero_lt_succ _) rfl
theorem dX10_doAgain_68 : decode cX10_doAgain 68 = .ok (.invokevirtual 318, 3) := dz1 (k := 4) (m := 3) dzb1_cX10_doAgain_64 di_422 (Nat.zero_lt_succ _) rfl
theorem dX10_doAgain_71 : decode cX10_doAgain 71 = .ok (.iinc 1 1, 3) := dz1 (k := 7) (m := 3) dzb1_cX10_doAgain_64 di_111 (Nat.zero_lt_succ _) rfl
theorem dX10_doAgain_74 : decode cX10_doAgain 74 = .ok (.goto (-65), 3) := dz1 (k := 10) (m := 3) dzb1_cX10_doAgain_64 di_433 (Nat.zero_lt_succ _) rfl
theorem dX10_doAgain_77 : decode cX10_doAgain 77 = .ok (.return_, 1) := dz1 (k := 13) (m := 1) dzb1_cX10_doAgain_64 di_2 (Nat.zero_lt_succ _) rfl
set_option maxRecDepth 100000 in
theorem dzb1_cX10_callsAhead_0 : DzLies cX10_callsAhead (.mk ⟨[0x2a, 0xb4, 0x00, 0x3c, 0x03, 0x32, 0x2a, 0xb4, 0x00, 0x2d, 0xb6, 0x00, 0xd9, 0x1b, 0x07, 0xb8, 0x01, 0x44, 0x2a, 0xb4, 0x00, 0x2d, 0xb4, 0x01, 0x06, 0xb8, 0x00, 0xe5, 0xb8, 0x01, 0x44, 0xac]⟩) 0 := dz_lies (m := 32) (Nat.zero_lt_succ _) rfl
theorem dX10_callsAhead_0 : decode cX10_callsAhead 0 = .ok (.aload_n 0, 1) := dz1 (k := 0) (m := 1) dzb1_cX10_callsAhead_0 di_0 (Nat.zero_lt_succ _) rfl
theorem dX10_callsAhead_1 : decode cX10_callsAhead 1 = .ok (.getfield 60, 3) := dz1 (k := 1) (m := 3) dzb1_cX10_callsAhead_0 di_227 (Nat.zero_lt_succ _) rfl
theorem dX10_callsAhead_4 : decode cX10_callsAhead 4 = .ok (.iconst 0, 1) := dz1 (k := 4) (m := 1) dzb1_cX10_callsAhead_0 di_8 (Nat.zero_lt_succ _) rfl
theorem dX10_callsAhead_5 : decode cX10_callsAhead 5 = .ok (.aaload, 1) := dz1 (k := 5) (m := 1) dzb1_cX10_callsAhead_0 di_130 (Nat.zero_lt_succ _) rfl
theorem dX10_callsAhead_6 : decode cX10_callsAhead 6 = .ok (.aload_n 0, 1) := dz1 (k := 6) (m := 1) dzb1_cX10_callsAhead_0 di_0 (Nat.zero_lt_succ _) rfl
theorem dX10_callsAhead_7 : decode cX10_callsAhead 7 = .ok (.getfield 45, 3) := dz1 (k := 7) (m := 3) dzb1_cX10_callsAhead_0 di_153 (Nat.zero_lt_succ _) rfl
theorem dX10_callsAhead_10 : decode cX10_callsAhead 10 = .ok (.invokevirtual 217, 3) := dz1 (k := 10) (m := 3) dzb1_cX10_callsAhead_0 di_326 (Nat.zero_lt_succ _) rfl
theorem dX10_callsAhead_13 : decode cX10_callsAhead 13 = .ok (.iload_n 1, 1) := dz1 (k := 13) (m := 1) dzb1_cX10_callsAhead_0 di_11 (Nat.zero_lt_succ _) rfl
theorem dX10_callsAhead_14 : decode cX10_callsAhead 14 = .ok (.iconst 4, 1) := dz1 (k := 14) (m := 1) dzb1_cX10_callsAhead_0 di_33 (Nat.zero_lt_succ _) rfl
theorem dX10_callsAhead_15 : decode cX10_callsAhead 15 = .ok (.invokestatic 324, 3) := dz1 (k := 15) (m := 3) dzb1_cX10_callsAhead_0 di_434 (Nat.zero_lt_succ _) rfl
theorem dX10_callsAhead_18 : decode cX10_callsAhead 18 = .ok (.aload_n 0, 1) := dz1 (k := 18) (m := 1) dzb1_cX10_callsAhead_0 di_0 (Nat.zero_lt_succ _) rfl
theorem dX10_callsAhead_19 : decode cX10_callsAhead 19 = .ok (.getfield 45, 3) := dz1 (k := 19) (m := 3) dzb1_cX10_callsAhead_0 di_153 (Nat.zero_lt_succ _) rfl
theorem dX10_callsAhead_22 : decode cX10_callsAhead 22 = .ok (.getfield 262, 3) := dz1 (k := 22) (m := 3) dzb1_cX10_callsAhead_0 di_359 (Nat.zero_lt_succ _) rfl
theorem dX10_callsAhead_25 : decode cX10_callsAhead 25 = .ok (.invokestatic 229, 3) := dz1 (k := 25) (m := 3) dzb1_cX10_callsAhead_0 di_337 (Nat.zero_lt_succ _) rfl
theorem dX10_callsAhead_28 : decode cX10_callsAhead 28 = .ok (.invokestatic 324, 3) := dz1 (k := 28) (m := 3) dzb1_cX10_callsAhead_0 di_434 (Nat.zero_lt_succ _) rfl
theorem dX10_callsAhead_31 : decode cX10_callsAhead 31 = .ok (.ireturn, 1) := dz1 (k := 31) (m := 1) dzb1_cX10_callsAhead_0 di_13 (Nat.zero_lt_succ _) rfl
set_option maxRecDepth 100000 in
theorem dzb1_cX10_stepAhead_0 : DzLies cX10_stepAhead (.mk ⟨[0x2a, 0xb4, 0x00, 0x40, 0x1b, 0x1c, 0x4f, 0x2a, 0xb4, 0x00, 0x3c, 0x1b, 0x04, 0x60, 0x32, 0x2a, 0xb4, 0x00, 0x3c, 0x1b, 0x32, 0xb6, 0x00, 0xd9, 0x2a, 0xb4, 0x00, 0x3c, 0x1b, 0x04, 0x60, 0x32]⟩) 0 := dz_lies (m := 32) (Nat.zero_lt_succ _) rfl
theorem dX10_stepAhead_0 : decode cX10_stepAhead 0 = .ok (.aload_n 0, 1) := dz1 (k := 0) (m := 1) dzb1_cX10_stepAhead_0 di_0 (Nat.zero_lt_succ _) rfl
theorem dX10_stepAhead_1 : decode cX10_stepAhead 1 = .ok (.getfield 64, 3) := dz1 (k := 1) (m := 3) dzb1_cX10_stepAhead_0 di_435 (Nat.zero_lt_succ _) rfl
theorem dX10_stepAhead_4 : decode cX10_stepAhead 4 = .ok (.iload_n 1, 1) := dz1 (k := 4) (m := 1) dzb1_cX10_stepAhead_0 di_11 (Nat.zero_lt_succ _) rfl
theorem dX10_stepAhead_5 : decode cX10_stepAhead 5 = .ok (.iload_n 2, 1) := dz1 (k := 5) (m := 1) dzb1_cX10_stepAhead_0 di_28 (Nat.zero_lt_succ _) rfl
theorem dX10_stepAhead_6 : decode cX10_stepAhead 6 = .ok (.iastore, 1) := dz1 (k := 6) (m := 1) dzb1_cX10_stepAhead_0 di_22 (Nat.zero_lt_succ _) rfl
theorem dX10_stepAhead_7 : decode cX10_stepAhead 7 = .ok (.aload_n 0, 1) := dz1 (k := 7) (m := 1) dzb1_cX10_stepAhead_0 di_0 (Nat.zero_lt_succ _) rfl
theorem dX10_stepAhead_8 : decode cX10_stepAhead 8 = .ok (.getfield 60, 3) := dz1 (k := 8) (m := 3) dzb1_cX10_stepAhead_0 di_227 (Nat.zero_lt_succ _) rfl
theorem dX10_stepAhead_11 : decode cX10_stepAhead 11 = .ok (.iload_n 1, 1) := dz1 (k := 11) (m := 1) dzb1_cX10_stepAhead_0 di_11 (Nat.zero_lt_succ _) rfl
theorem dX10_stepAhead_12 : decode cX10_stepAhead 12 = .ok (.iconst 1, 1) := dz1 (k := 12) (m := 1) dzb1_cX10_stepAhead_0 di_10 (Nat.zero_lt_succ _) rfl
theorem dX10_stepAhead_13 : decode cX10_stepAhead 13 = .ok (.iadd, 1) := dz1 (k := 13) (m := 1) dzb1_cX10_stepAhead_0 di_24 (Nat.zero_lt_succ _) rfl
theorem dX10_stepAhead_14 : decode cX10_stepAhead 14 = .ok (.aaload, 1) := dz1 (k := 14) (m := 1) dzb1_cX10_stepAhead_0 di_130 (Nat.zero_lt_succ _) rfl
theorem dX10_stepAhead_15 : decode cX10_stepAhead 15 = .ok (.aload_n 0, 1) := dz1 (k := 15) (m := 1) dzb1_cX10_stepAhead_0 di_0 (Nat.zero_lt_succ _) rfl
theorem dX10_stepAhead_16 : decode cX10_stepAhead 16 = .ok (.getfield 60, 3) := dz1 (k := 16) (m := 3) dzb1_cX10_stepAhead_0 di_227 (Nat.zero_lt_succ _) rfl
theorem dX10_stepAhead_19 : decode cX10_stepAhead 19 = .ok (.iload_n 1, 1) := dz1 (k := 19) (m := 1) dzb1_cX10_stepAhead_0 di_11 (Nat.zero_lt_succ _) rfl
theorem dX10_stepAhead_20 : decode cX10_stepAhead 20 = .ok (.aaload, 1) := dz1 (k := 20) (m := 1) dzb1_cX10_stepAhead_0 di_130 (Nat.zero_lt_succ _) rfl
theorem dX10_stepAhead_21 : decode cX10_stepAhead 21 = .ok (.invokevirtual 217, 3) := dz1 (k := 21) (m := 3) dzb1_cX10_stepAhead_0 di_326 (Nat.zero_lt_succ _) rfl
theorem dX10_stepAhead_24 : decode cX10_stepAhead 24 = .ok (.aload_n 0, 1) := dz1 (k := 24) (m := 1) dzb1_cX10_stepAhead_0 di_0 (Nat.zero_lt_succ _) rfl
theorem dX10_stepAhead_25 : decode cX10_stepAhead 25 = .ok (.getfield 60, 3) := dz1 (k := 25) (m := 3) dzb1_cX10_stepAhead_0 di_227 (Nat.zero_lt_succ _) rfl
theorem dX10_stepAhead_28 : decode cX10_stepAhead 28 = .ok (.iload_n 1, 1) := dz1 (k := 28) (m := 1) dzb1_cX10_stepAhead_0 di_11 (Nat.zero_lt_succ _) rfl
theorem dX10_stepAhead_29 : decode cX10_stepAhead 29 = .ok (.iconst 1, 1) := dz1 (k := 29) (m := 1) dzb1_cX10_stepAhead_0 di_10 (Nat.zero_lt_succ _) rfl
theorem dX10_stepAhead_30 : decode cX10_stepAhead 30 = .ok (.iadd, 1) := dz1 (k := 30) (m := 1) dzb1_cX10_stepAhead_0 di_24 (Nat.zero_lt_succ _) rfl
theorem dX10_stepAhead_31 : decode cX10_stepAhead 31 = .ok (.aaload, 1) := dz1 (k := 31) (m := 1) dzb1_cX10_stepAhead_0 di_130 (Nat.zero_lt_succ _) rfl
set_option maxRecDepth 100000 in
theorem dzb1_cX10_stepAhead_32 : DzLies cX10_stepAhead (.mk ⟨[0x1c, 0x1d, 0xb6, 0x00, 0xdc, 0xac]⟩) 32 := dz_lies (m := 6) (Nat.zero_lt_succ _) rfl
theorem dX10_stepAhead_32 : decode cX10_stepAhead 32 = .ok (.iload_n 2, 1) := dz1 (k := 0) (m := 1) dzb1_cX10_stepAhead_32 di_28 (Nat.zero_lt_succ _) rfl
theorem dX10_stepAhead_33 : decode cX10_stepAhead 33 = .ok (.iload_n 3, 1) := dz1 (k := 1) (m := 1) dzb1_cX10_stepAhead_32 di_3 (Nat.zero_lt_succ _) rfl
theorem dX10_stepAhead_34 : decode cX10_stepAhead 34 = .ok (.invokevirtual 220, 3) := dz1 (k := 2) (m := 3) dzb1_cX10_stepAhead_32 di_330 (Nat.zero_lt_succ _) rfl
theorem dX10_stepAhead_37 : decode cX10_stepAhead 37 = .ok (.ireturn, 1) := dz1 (k := 5) (m := 1) dzb1_cX10_stepAhead_32 di_13 (Nat.zero_lt_succ _) rfl
set_option maxRecDepth 100000 in
theorem dzb1_cX10_layTrail_0 : DzLies cX10_layTrail (.mk ⟨[0x2a, 0xb4, 0x00, 0x40, 0x03, 0x2a, 0xb4, 0x00, 0x0b, 0x1b, 0x32, 0x03, 0x1c, 0xb8, 0x00, 0x6d, 0x2a, 0xb4, 0x00, 0x0e, 0x1b, 0x1c, 0x4f, 0xb1]⟩) 0 := dz_lies (m := 24) (Nat.zero_lt_succ _) rfl
theorem dX10_layTrail_0 : decode cX10_layTrail 0 = .ok (.aload_n 0, 1) := dz1 (k := 0) (m := 1) dzb1_cX10_layTrail_0 di_0 (Nat.zero_lt_succ _) rfl
theorem dX10_layTrail_1 : decode cX10_layTrail 1 = .ok (.getfield 64, 3) := dz1 (k := 1) (m := 3) dzb1_cX10_layTrail_0 di_435 (Nat.zero_lt_succ _) rfl
theorem dX10_layTrail_4 : decode cX10_layTrail 4 = .ok (.iconst 0, 1) := dz1 (k := 4) (m := 1) dzb1_cX10_layTrail_0 di_8 (Nat.zero_lt_succ _) rfl
theorem dX10_layTrail_5 : decode cX10_layTrail 5 = .ok (.aload_n 0, 1) := dz1 (k := 5) (m := 1) dzb1_cX10_layTrail_0 di_0 (Nat.zero_lt_succ _) rfl
theorem dX10_layTrail_6 : decode cX10_layTrail 6 = .ok (.getfield 11, 3) := dz1 (k := 6) (m := 3) dzb1_cX10_layTrail_0 di_233 (Nat.zero_lt_succ _) rfl
theorem dX10_layTrail_9 : decode cX10_layTrail 9 = .ok (.iload_n 1, 1) := dz1 (k := 9) (m := 1) dzb1_cX10_layTrail_0 di_11 (Nat.zero_lt_succ _) rfl
theorem dX10_layTrail_10 : decode cX10_layTrail 10 = .ok (.aaload, 1) := dz1 (k := 10) (m := 1) dzb1_cX10_layTrail_0 di_130 (Nat.zero_lt_succ _) rfl
theorem dX10_layTrail_11 : decode cX10_layTrail 11 = .ok (.iconst 0, 1) := dz1 (k := 11) (m := 1) dzb1_cX10_layTrail_0 di_8 (Nat.zero_lt_succ _) rfl
theorem dX10_layTrail_12 : decode cX10_layTrail 12 = .ok (.iload_n 2, 1) := dz1 (k := 12) (m := 1) dzb1_cX10_layTrail_0 di_28 (Nat.zero_lt_succ _) rfl
theorem dX10_layTrail_13 : decode cX10_layTrail 13 = .ok (.invokestatic 109, 3) := dz1 (k := 13) (m := 3) dzb1_cX10_layTrail_0 di_244 (Nat.zero_lt_succ _) rfl
theorem dX10_layTrail_16 : decode cX10_layTrail 16 = .ok (.aload_n 0, 1) := dz1 (k := 16) (m := 1) dzb1_cX10_layTrail_0 di_0 (Nat.zero_lt_succ _) rfl
theorem dX10_layTrail_17 : decode cX10_layTrail 17 = .ok (.getfield 14, 3) := dz1 (k := 17) (m := 3) dzb1_cX10_layTrail_0 di_220 (Nat.zero_lt_succ _) rfl
theorem dX10_layTrail_20 : decode cX10_layTrail 20 = .ok (.iload_n 1, 1) := dz1 (k := 20) (m := 1) dzb1_cX10_layTrail_0 di_11 (Nat.zero_lt_succ _) rfl
theorem dX10_layTrail_21 : decode cX10_layTrail 21 = .ok (.iload_n 2, 1) := dz1 (k := 21) (m := 1) dzb1_cX10_layTrail_0 di_28 (Nat.zero_lt_succ _) rfl
theorem dX10_layTrail_22 : decode cX10_layTrail 22 = .ok (.iastore, 1) := dz1 (k := 22) (m := 1) dzb1_cX10_layTrail_0 di_22 (Nat.zero_lt_succ _) rfl
theorem dX10_layTrail_23 : decode cX10_layTrail 23 = .ok (.return_, 1) := dz1 (k := 23) (m := 1) dzb1_cX10_layTrail_0 di_2 (Nat.zero_lt_succ _) rfl
set_option maxRecDepth 100000 in
theorem dzb1_cX10_winsAhead_0 : DzLies cX10_winsAhead (.mk ⟨[0x2a, 0xb4, 0x00, 0x3c, 0x1c, 0x32, 0x3a, 0x04, 0x1c, 0x1d, 0xa2, 0x00, 0x08, 0x1c, 0x07, 0xa1, 0x00, 0x0a, 0x19, 0x04, 0x1b, 0xb6, 0x01, 0x49, 0xac, 0x04, 0x36, 0x05, 0x15, 0x05, 0x10, 0x0c]⟩) 0 := dz_lies (m := 32) (Nat.zero_lt_succ _) rfl
theorem dX10_winsAhead_0 : decode cX10_winsAhead 0 = .ok (.aload_n 0, 1) := dz1 (k := 0) (m := 1) dzb1_cX10_winsAhead_0 di_0 (Nat.zero_lt_succ _) rfl
theorem dX10_winsAhead_1 : decode cX10_winsAhead 1 = .ok (.getfield 60, 3) := dz1 (k := 1) (m := 3) dzb1_cX10_winsAhead_0 di_227 (Nat.zero_lt_succ _) rfl
theorem dX10_winsAhead_4 : decode cX10_winsAhead 4 = .ok (.iload_n 2, 1) := dz1 (k := 4) (m := 1) dzb1_cX10_winsAhead_0 di_28 (Nat.zero_lt_succ _) rfl
theorem dX10_winsAhead_5 : decode cX10_winsAhead 5 = .ok (.aaload, 1) := dz1 (k := 5) (m := 1) dzb1_cX10_winsAhead_0 di_130 (Nat.zero_lt_succ _) rfl
theorem dX10_winsAhead_6 : decode cX10_winsAhead 6 = .ok (.astore 4, 2) := dz1 (k := 6) (m := 2) dzb1_cX10_winsAhead_0 di_286 (Nat.zero_lt_succ _) rfl
theorem dX10_winsAhead_8 : decode cX10_winsAhead 8 = .ok (.iload_n 2, 1) := dz1 (k := 8) (m := 1) dzb1_cX10_winsAhead_0 di_28 (Nat.zero_lt_succ _) rfl
theorem dX10_winsAhead_9 : decode cX10_winsAhead 9 = .ok (.iload_n 3, 1) := dz1 (k := 9) (m := 1) dzb1_cX10_winsAhead_0 di_3 (Nat.zero_lt_succ _) rfl
theorem dX10_winsAhead_10 : decode cX10_winsAhead 10 = .ok (.if_icmp .ge 8, 3) := dz1 (k := 10) (m := 3) dzb1_cX10_winsAhead_0 di_436 (Nat.zero_lt_succ _) rfl
theorem dX10_winsAhead_13 : decode cX10_winsAhead 13 = .ok (.iload_n 2, 1) := dz1 (k := 13) (m := 1) dzb1_cX10_winsAhead_0 di_28 (Nat.zero_lt_succ _) rfl
theorem dX10_winsAhead_14 : decode cX10_winsAhead 14 = .ok (.iconst 4, 1) := dz1 (k := 14) (m := 1) dzb1_cX10_winsAhead_0 di_33 (Nat.zero_lt_succ _) rfl
theorem dX10_winsAhead_15 : decode cX10_winsAhead 15 = .ok (.if_icmp .lt 10, 3) := dz1 (k := 15) (m := 3) dzb1_cX10_winsAhead_0 di_437 (Nat.zero_lt_succ _) rfl
theorem dX10_winsAhead_18 : decode cX10_winsAhead 18 = .ok (.aload 4, 2) := dz1 (k := 18) (m := 2) dzb1_cX10_winsAhead_0 di_287 (Nat.zero_lt_succ _) rfl
theorem dX10_winsAhead_20 : decode cX10_winsAhead 20 = .ok (.iload_n 1, 1) := dz1 (k := 20) (m := 1) dzb1_cX10_winsAhead_0 di_11 (Nat.zero_lt_succ _) rfl
theorem dX10_winsAhead_21 : decode cX10_winsAhead 21 = .ok (.invokevirtual 329, 3) := dz1 (k := 21) (m := 3) dzb1_cX10_winsAhead_0 di_438 (Nat.zero_lt_succ _) rfl
theorem dX10_winsAhead_24 : decode cX10_winsAhead 24 = .ok (.ireturn, 1) := dz1 (k := 24) (m := 1) dzb1_cX10_winsAhead_0 di_13 (Nat.zero_lt_succ _) rfl
theorem dX10_winsAhead_25 : decode cX10_winsAhead 25 = .ok (.iconst 1, 1) := dz1 (k := 25) (m := 1) dzb1_cX10_winsAhead_0 di_10 (Nat.zero_lt_succ _) rfl
theorem dX10_winsAhead_26 : decode cX10_winsAhead 26 = .ok (.istore 5, 2) := dz1 (k := 26) (m := 2) dzb1_cX10_winsAhead_0 di_100 (Nat.zero_lt_succ _) rfl
theorem dX10_winsAhead_28 : decode cX10_winsAhead 28 = .ok (.iload 5, 2) := dz1 (k := 28) (m := 2) dzb1_cX10_winsAhead_0 di_101 (Nat.zero_lt_succ _) rfl
theorem dX10_winsAhead_30 : decode cX10_winsAhead 30 = .ok (.bipush 12, 2) := dz1 (k := 30) (m := 2) dzb1_cX10_winsAhead_0 di_126 (Nat.zero_lt_succ _) rfl
set_option maxRecDepth 100000 in
theorem dzb1_cX10_winsAhead_32 : DzLies cX10_winsAhead (.mk ⟨[0xa3, 0x00, 0x2c, 0x19, 0x04, 0x15, 0x05, 0xb6, 0x00, 0xbf, 0x99, 0x00, 0x1c, 0x2a, 0x1c, 0x15, 0x05, 0x04, 0x1b, 0x78, 0xb6, 0x00, 0xe2, 0x57, 0x2a, 0x1b, 0x1c, 0x04, 0x60, 0x1d, 0xb6, 0x00, 0xed]⟩) 32 := dz_lies (m := 33) (Nat.zero_lt_succ _) rfl
theorem dX10_winsAhead_32 : decode cX10_winsAhead 32 = .ok (.if_icmp .gt 44, 3) := dz1 (k := 0) (m := 3) dzb1_cX10_winsAhead_32 di_439 (Nat.zero_lt_succ _) rfl
theorem dX10_winsAhead_35 : decode cX10_winsAhead 35 = .ok (.aload 4, 2) := dz1 (k := 3) (m := 2) dzb1_cX10_winsAhead_32 di_287 (Nat.zero_lt_succ _) rfl
theorem dX10_winsAhead_37 : decode cX10_winsAhead 37 = .ok (.iload 5, 2) := dz1 (k := 5) (m := 2) dzb1_cX10_winsAhead_32 di_101 (Nat.zero_lt_succ _) rfl
theorem dX10_winsAhead_39 : decode cX10_winsAhead 39 = .ok (.invokevirtual 191, 3) := dz1 (k := 7) (m := 3) dzb1_cX10_winsAhead_32 di_307 (Nat.zero_lt_succ _) rfl
theorem dX10_winsAhead_42 : decode cX10_winsAhead 42 = .ok (.ifCond .eq 28, 3) := dz1 (k := 10) (m := 3) dzb1_cX10_winsAhead_32 di_440 (Nat.zero_lt_succ _) rfl
theorem dX10_winsAhead_45 : decode cX10_winsAhead 45 = .ok (.aload_n 0, 1) := dz1 (k := 13) (m := 1) dzb1_cX10_winsAhead_32 di_0 (Nat.zero_lt_succ _) rfl
theorem dX10_winsAhead_46 : decode cX10_winsAhead 46 = .ok (.iload_n 2, 1) := dz1 (k := 14) (m := 1) dzb1_cX10_winsAhead_32 di_28 (Nat.zero_lt_succ _) rfl
theorem dX10_winsAhead_47 : decode cX10_winsAhead 47 = .ok (.iload 5, 2) := dz1 (k := 15) (m := 2) dzb1_cX10_winsAhead_32 di_101 (Nat.zero_lt_succ _) rfl
theorem dX10_winsAhead_49 : decode cX10_winsAhead 49 = .ok (.iconst 1, 1) := dz1 (k := 17) (m := 1) dzb1_cX10_winsAhead_32 di_10 (Nat.zero_lt_succ _) rfl
theorem dX10_winsAhead_50 : decode cX10_winsAhead 50 = .ok (.iload_n 1, 1) := dz1 (k := 18) (m := 1) dzb1_cX10_winsAhead_32 di_11 (Nat.zero_lt_succ _) rfl
theorem dX10_winsAhead_51 : decode cX10_winsAhead 51 = .ok (.ishl, 1) := dz1 (k := 19) (m := 1) dzb1_cX10_winsAhead_32 di_12 (Nat.zero_lt_succ _) rfl
theorem dX10_winsAhead_52 : decode cX10_winsAhead 52 = .ok (.invokevirtual 226, 3) := dz1 (k := 20) (m := 3) dzb1_cX10_winsAhead_32 di_336 (Nat.zero_lt_succ _) rfl
theorem dX10_winsAhead_55 : decode cX10_winsAhead 55 = .ok (.pop, 1) := dz1 (k := 23) (m := 1) dzb1_cX10_winsAhead_32 di_331 (Nat.zero_lt_succ _) rfl
theorem dX10_winsAhead_56 : decode cX10_winsAhead 56 = .ok (.aload_n 0, 1) := dz1 (k := 24) (m := 1) dzb1_cX10_winsAhead_32 di_0 (Nat.zero_lt_succ _) rfl
theorem dX10_winsAhead_57 : decode cX10_winsAhead 57 = .ok (.iload_n 1, 1) := dz1 (k := 25) (m := 1) dzb1_cX10_winsAhead_32 di_11 (Nat.zero_lt_succ _) rfl
theorem dX10_winsAhead_58 : decode cX10_winsAhead 58 = .ok (.iload_n 2, 1) := dz1 (k := 26) (m := 1) dzb1_cX10_winsAhead_32 di_28 (Nat.zero_lt_succ _) rfl
theorem dX10_winsAhead_59 : decode cX10_winsAhead 59 = .ok (.iconst 1, 1) := dz1 (k := 27) (m := 1) dzb1_cX10_winsAhead_32 di_10 (Nat.zero_lt_succ _) rfl
theorem dX10_winsAhead_60 : decode cX10_winsAhead 60 = .ok (.iadd, 1) := dz1 (k := 28) (m := 1) dzb1_cX10_winsAhead_32 di_24 (Nat.zero_lt_succ _) rfl
theorem dX10_winsAhead_61 : decode cX10_winsAhead 61 = .ok (.iload_n 3, 1) := dz1 (k := 29) (m := 1) dzb1_cX10_winsAhead_32 di_3 (Nat.zero_lt_succ _) rfl
theorem dX10_winsAhead_62 : decode cX10_winsAhead 62 = .ok (.invokevirtual 237, 3) := dz1 (k := 30) (m := 3) dzb1_cX10_winsAhead_32 di_344 (Nat.zero_lt_succ _) rfl
set_option maxRecDepth 100000 in
theorem dzb1_cX10_winsAhead_64 : DzLies cX10_winsAhead (.mk ⟨[0xed, 0x99, 0x00, 0x05, 0x04, 0xac, 0x84, 0x05, 0x01, 0xa7, 0xff, 0xd3, 0x03, 0xac]⟩) 64 := dz_lies (m := 14) (Nat.zero_lt_succ _) rfl
theorem dX10_winsAhead_65 : decode cX10_winsAhead 65 = .ok (.ifCond .eq 5, 3) := dz1 (k := 1) (m := 3) dzb1_cX10_winsAhead_64 di_236 (Nat.zero_lt_succ _) rfl
theorem dX10_winsAhead_68 : decode cX10_winsAhead 68 = .ok (.iconst 1, 1) := dz1 (k := 4) (m := 1) dzb1_cX10_winsAhead_64 di_10 (Nat.zero_lt_succ _) rfl
theorem dX10_winsAhead_69 : decode cX10_winsAhead 69 = .ok (.ireturn, 1) := dz1 (k := 5) (m := 1) dzb1_cX10_winsAhead_64 di_13 (Nat.zero_lt_succ _) rfl
theorem dX10_winsAhead_70 : decode cX10_winsAhead 70 = .ok (.iinc 5 1, 3) := dz1 (k := 6) (m := 3) dzb1_cX10_winsAhead_64 di_131 (Nat.zero_lt_succ _) rfl
theorem dX10_winsAhead_73 : decode cX10_winsAhead 73 = .ok (.goto (-45), 3) := dz1 (k := 9) (m := 3) dzb1_cX10_winsAhead_64 di_441 (Nat.zero_lt_succ _) rfl
theorem dX10_winsAhead_76 : decode cX10_winsAhead 76 = .ok (.iconst 0, 1) := dz1 (k := 12) (m := 1) dzb1_cX10_winsAhead_64 di_8 (Nat.zero_lt_succ _) rfl
theorem dX10_winsAhead_77 : decode cX10_winsAhead 77 = .ok (.ireturn, 1) := dz1 (k := 13) (m := 1) dzb1_cX10_winsAhead_64 di_13 (Nat.zero_lt_succ _) rfl
set_option maxRecDepth 100000 in
theorem dzb1_cX10_gatherMost_0 : DzLies cX10_gatherMost (.mk ⟨[0x2a, 0xb4, 0x00, 0x3c, 0x1c, 0x32, 0x3a, 0x04, 0x1c, 0x1d, 0xa2, 0x00, 0x08, 0x1c, 0x07, 0xa1, 0x00, 0x23, 0x19, 0x04, 0xb4, 0x00, 0xdf, 0xb8, 0x00, 0xe5, 0x36, 0x05, 0x15, 0x05, 0x2a, 0xb4, 0x00, 0xf3]⟩) 0 := dz_lies (m := 34) (Nat.zero_lt_succ _) rfl
theorem dX10_gatherMost_0 : decode cX10_gatherMost 0 = .ok (.aload_n 0, 1) := dz1 (k := 0) (m := 1) dzb1_cX10_gatherMost_0 di_0 (Nat.zero_lt_succ _) rfl
theorem dX10_gatherMost_1 : decode cX10_gatherMost 1 = .ok (.getfield 60, 3) := dz1 (k := 1) (m := 3) dzb1_cX10_gatherMost_0 di_227 (Nat.zero_lt_succ _) rfl
theorem dX10_gatherMost_4 : decode cX10_gatherMost 4 = .ok (.iload_n 2, 1) := dz1 (k := 4) (m := 1) dzb1_cX10_gatherMost_0 di_28 (Nat.zero_lt_succ _) rfl
theorem dX10_gatherMost_5 : decode cX10_gatherMost 5 = .ok (.aaload, 1) := dz1 (k := 5) (m := 1) dzb1_cX10_gatherMost_0 di_130 (Nat.zero_lt_succ _) rfl
theorem dX10_gatherMost_6 : decode cX10_gatherMost 6 = .ok (.astore 4, 2) := dz1 (k := 6) (m := 2) dzb1_cX10_gatherMost_0 di_286 (Nat.zero_lt_succ _) rfl
theorem dX10_gatherMost_8 : decode cX10_gatherMost 8 = .ok (.iload_n 2, 1) := dz1 (k := 8) (m := 1) dzb1_cX10_gatherMost_0 di_28 (Nat.zero_lt_succ _) rfl
theorem dX10_gatherMost_9 : decode cX10_gatherMost 9 = .ok (.iload_n 3, 1) := dz1 (k := 9) (m := 1) dzb1_cX10_gatherMost_0 di_3 (Nat.zero_lt_succ _) rfl
theorem dX10_gatherMost_10 : decode cX10_gatherMost 10 = .ok (.if_icmp .ge 8, 3) := dz1 (k := 10) (m := 3) dzb1_cX10_gatherMost_0 di_436 (Nat.zero_lt_succ _) rfl
theorem dX10_gatherMost_13 : decode cX10_gatherMost 13 = .ok (.iload_n 2, 1) := dz1 (k := 13) (m := 1) dzb1_cX10_gatherMost_0 di_28 (Nat.zero_lt_succ _) rfl
theorem dX10_gatherMost_14 : decode cX10_gatherMost 14 = .ok (.iconst 4, 1) := dz1 (k := 14) (m := 1) dzb1_cX10_gatherMost_0 di_33 (Nat.zero_lt_succ _) rfl
theorem dX10_gatherMost_15 : decode cX10_gatherMost 15 = .ok (.if_icmp .lt 35, 3) := dz1 (k := 15) (m := 3) dzb1_cX10_gatherMost_0 di_442 (Nat.zero_lt_succ _) rfl
theorem dX10_gatherMost_18 : decode cX10_gatherMost 18 = .ok (.aload 4, 2) := dz1 (k := 18) (m := 2) dzb1_cX10_gatherMost_0 di_287 (Nat.zero_lt_succ _) rfl
theorem dX10_gatherMost_20 : decode cX10_gatherMost 20 = .ok (.getfield 223, 3) := dz1 (k := 20) (m := 3) dzb1_cX10_gatherMost_0 di_333 (Nat.zero_lt_succ _) rfl
theorem dX10_gatherMost_23 : decode cX10_gatherMost 23 = .ok (.invokestatic 229, 3) := dz1 (k := 23) (m := 3) dzb1_cX10_gatherMost_0 di_337 (Nat.zero_lt_succ _) rfl
theorem dX10_gatherMost_26 : decode cX10_gatherMost 26 = .ok (.istore 5, 2) := dz1 (k := 26) (m := 2) dzb1_cX10_gatherMost_0 di_100 (Nat.zero_lt_succ _) rfl
theorem dX10_gatherMost_28 : decode cX10_gatherMost 28 = .ok (.iload 5, 2) := dz1 (k := 28) (m := 2) dzb1_cX10_gatherMost_0 di_101 (Nat.zero_lt_succ _) rfl
theorem dX10_gatherMost_30 : decode cX10_gatherMost 30 = .ok (.aload_n 0, 1) := dz1 (k := 30) (m := 1) dzb1_cX10_gatherMost_0 di_0 (Nat.zero_lt_succ _) rfl
theorem dX10_gatherMost_31 : decode cX10_gatherMost 31 = .ok (.getfield 243, 3) := dz1 (k := 31) (m := 3) dzb1_cX10_gatherMost_0 di_351 (Nat.zero_lt_succ _) rfl
set_option maxRecDepth 100000 in
theorem dzb1_cX10_gatherMost_32 : DzLies cX10_gatherMost (.mk ⟨[0x00, 0xf3, 0xa4, 0x00, 0x0f, 0x2a, 0x15, 0x05, 0xb5, 0x00, 0xf3, 0x2a, 0x1b, 0x1c, 0xb6, 0x00, 0xf0, 0xb1, 0x04, 0x36, 0x05, 0x15, 0x05, 0x10, 0x0c, 0xa3, 0x00, 0x34, 0x2a, 0xb4, 0x00, 0xf3]⟩) 32 := dz_lies (m := 32) (Nat.zero_lt_succ _) rfl
theorem dX10_gatherMost_34 : decode cX10_gatherMost 34 = .ok (.if_icmp .le 15, 3) := dz1 (k := 2) (m := 3) dzb1_cX10_gatherMost_32 di_443 (Nat.zero_lt_succ _) rfl
theorem dX10_gatherMost_37 : decode cX10_gatherMost 37 = .ok (.aload_n 0, 1) := dz1 (k := 5) (m := 1) dzb1_cX10_gatherMost_32 di_0 (Nat.zero_lt_succ _) rfl
theorem dX10_gatherMost_38 : decode cX10_gatherMost 38 = .ok (.iload 5, 2) := dz1 (k := 6) (m := 2) dzb1_cX10_gatherMost_32 di_101 (Nat.zero_lt_succ _) rfl
theorem dX10_gatherMost_40 : decode cX10_gatherMost 40 = .ok (.putfield 243, 3) := dz1 (k := 8) (m := 3) dzb1_cX10_gatherMost_32 di_349 (Nat.zero_lt_succ _) rfl
theorem dX10_gatherMost_43 : decode cX10_gatherMost 43 = .ok (.aload_n 0, 1) := dz1 (k := 11) (m := 1) dzb1_cX10_gatherMost_32 di_0 (Nat.zero_lt_succ _) rfl
theorem dX10_gatherMost_44 : decode cX10_gatherMost 44 = .ok (.iload_n 1, 1) := dz1 (k := 12) (m := 1) dzb1_cX10_gatherMost_32 di_11 (Nat.zero_lt_succ _) rfl
theorem dX10_gatherMost_45 : decode cX10_gatherMost 45 = .ok (.iload_n 2, 1) := dz1 (k := 13) (m := 1) dzb1_cX10_gatherMost_32 di_28 (Nat.zero_lt_succ _) rfl
theorem dX10_gatherMost_46 : decode cX10_gatherMost 46 = .ok (.invokevirtual 240, 3) := dz1 (k := 14) (m := 3) dzb1_cX10_gatherMost_32 di_345 (Nat.zero_lt_succ _) rfl
theorem dX10_gatherMost_49 : decode cX10_gatherMost 49 = .ok (.return_, 1) := dz1 (k := 17) (m := 1) dzb1_cX10_gatherMost_32 di_2 (Nat.zero_lt_succ _) rfl
theorem dX10_gatherMost_50 : decode cX10_gatherMost 50 = .ok (.iconst 1, 1) := dz1 (k := 18) (m := 1) dzb1_cX10_gatherMost_32 di_10 (Nat.zero_lt_succ _) rfl
theorem dX10_gatherMost_51 : decode cX10_gatherMost 51 = .ok (.istore 5, 2) := dz1 (k := 19) (m := 2) dzb1_cX10_gatherMost_32 di_100 (Nat.zero_lt_succ _) rfl
theorem dX10_gatherMost_53 : decode cX10_gatherMost 53 = .ok (.iload 5, 2) := dz1 (k := 21) (m := 2) dzb1_cX10_gatherMost_32 di_101 (Nat.zero_lt_succ _) rfl
theorem dX10_gatherMost_55 : decode cX10_gatherMost 55 = .ok (.bipush 12, 2) := dz1 (k := 23) (m := 2) dzb1_cX10_gatherMost_32 di_126 (Nat.zero_lt_succ _) rfl
theorem dX10_gatherMost_57 : decode cX10_gatherMost 57 = .ok (.if_icmp .gt 52, 3) := dz1 (k := 25) (m := 3) dzb1_cX10_gatherMost_32 di_444 (Nat.zero_lt_succ _) rfl
theorem dX10_gatherMost_60 : decode cX10_gatherMost 60 = .ok (.aload_n 0, 1) := dz1 (k := 28) (m := 1) dzb1_cX10_gatherMost_32 di_0 (Nat.zero_lt_succ _) rfl
theorem dX10_gatherMost_61 : decode cX10_gatherMost 61 = .ok (.getfield 243, 3) := dz1 (k := 29) (m := 3) dzb1_cX10_gatherMost_32 di_351 (Nat.zero_lt_succ _) rfl
set_option maxRecDepth 100000 in
theorem dzb1_cX10_gatherMost_64 : DzLies cX10_gatherMost (.mk ⟨[0x2a, 0xb4, 0x00, 0x24, 0xb4, 0x00, 0x87, 0xa2, 0x00, 0x26, 0x19, 0x04, 0x15, 0x05, 0xb6, 0x00, 0xbf, 0x99, 0x00, 0x16, 0x2a, 0x1c, 0x15, 0x05, 0x10, 0x0f, 0xb6, 0x00, 0xe2, 0x57, 0x2a, 0x1b]⟩) 64 := dz_lies (m := 32) (Nat.zero_lt_succ _) rfl
theorem dX10_gatherMost_64 : decode cX10_gatherMost 64 = .ok (.aload_n 0, 1) := dz1 (k := 0) (m := 1) dzb1_cX10_gatherMost_64 di_0 (Nat.zero_lt_succ _) rfl
theorem dX10_gatherMost_65 : decode cX10_gatherMost 65 = .ok (.getfield 36, 3) := dz1 (k := 1) (m := 3) dzb1_cX10_gatherMost_64 di_205 (Nat.zero_lt_succ _) rfl
theorem dX10_gatherMost_68 : decode cX10_gatherMost 68 = .ok (.getfield 135, 3) := dz1 (k := 4) (m := 3) dzb1_cX10_gatherMost_64 di_270 (Nat.zero_lt_succ _) rfl
theorem dX10_gatherMost_71 : decode cX10_gatherMost 71 = .ok (.if_icmp .ge 38, 3) := dz1 (k := 7) (m := 3) dzb1_cX10_gatherMost_64 di_445 (Nat.zero_lt_succ _) rfl
theorem dX10_gatherMost_74 : decode cX10_gatherMost 74 = .ok (.aload 4, 2) := dz1 (k := 10) (m := 2) dzb1_cX10_gatherMost_64 di_287 (Nat.zero_lt_succ _) rfl
theorem dX10_gatherMost_76 : decode cX10_gatherMost 76 = .ok (.iload 5, 2) := dz1 (k := 12) (m := 2) dzb1_cX10_gatherMost_64 di_101 (Nat.zero_lt_succ _) rfl
theorem dX10_gatherMost_78 : decode cX10_gatherMost 78 = .ok (.invokevirtual 191, 3) := dz1 (k := 14) (m := 3) dzb1_cX10_gatherMost_64 di_307 (Nat.zero_lt_succ _) rfl
theorem dX10_gatherMost_81 : decode cX10_gatherMost 81 = .ok (.ifCond .eq 22, 3) := dz1 (k := 17) (m := 3) dzb1_cX10_gatherMost_64 di_292 (Nat.zero_lt_succ _) rfl
theorem dX10_gatherMost_84 : decode cX10_gatherMost 84 = .ok (.aload_n 0, 1) := dz1 (k := 20) (m := 1) dzb1_cX10_gatherMost_64 di_0 (Nat.zero_lt_succ _) rfl
theorem dX10_gatherMost_85 : decode cX10_gatherMost 85 = .ok (.iload_n 2, 1) := dz1 (k := 21) (m := 1) dzb1_cX10_gatherMost_64 di_28 (Nat.zero_lt_succ _) rfl
theorem dX10_gatherMost_86 : decode cX10_gatherMost 86 = .ok (.iload 5, 2) := dz1 (k := 22) (m := 2) dzb1_cX10_gatherMost_64 di_101 (Nat.zero_lt_succ _) rfl
theorem dX10_gatherMost_88 : decode cX10_gatherMost 88 = .ok (.bipush 15, 2) := dz1 (k := 24) (m := 2) dzb1_cX10_gatherMost_64 di_329 (Nat.zero_lt_succ _) rfl
theorem dX10_gatherMost_90 : decode cX10_gatherMost 90 = .ok (.invokevirtual 226, 3) := dz1 (k := 26) (m := 3) dzb1_cX10_gatherMost_64 di_336 (Nat.zero_lt_succ _) rfl
theorem dX10_gatherMost_93 : decode cX10_gatherMost 93 = .ok (.pop, 1) := dz1 (k := 29) (m := 1) dzb1_cX10_gatherMost_64 di_331 (Nat.zero_lt_succ _) rfl
theorem dX10_gatherMost_94 : decode cX10_gatherMost 94 = .ok (.aload_n 0, 1) := dz1 (k := 30) (m := 1) dzb1_cX10_gatherMost_64 di_0 (Nat.zero_lt_succ _) rfl
theorem dX10_gatherMost_95 : decode cX10_gatherMost 95 = .ok (.iload_n 1, 1) := dz1 (k := 31) (m := 1) dzb1_cX10_gatherMost_64 di_11 (Nat.zero_lt_succ _) rfl
set_option maxRecDepth 100000 in
theorem dzb1_cX10_gatherMost_96 : DzLies cX10_gatherMost (.mk ⟨[0x1c, 0x04, 0x60, 0x1d, 0xb6, 0x00, 0xf6, 0x84, 0x05, 0x01, 0xa7, 0xff, 0xcb, 0xb1]⟩) 96 := dz_lies (m := 14) (Nat.zero_lt_succ _) rfl
theorem dX10_gatherMost_96 : decode cX10_gatherMost 96 = .ok (.iload_n 2, 1) := dz1 (k := 0) (m := 1) dzb1_cX10_gatherMost_96 di_28 (Nat.zero_lt_succ _) rfl
theorem dX10_gatherMost_97 : decode cX10_gatherMost 97 = .ok (.iconst 1, 1) := dz1 (k := 1) (m := 1) dzb1_cX10_gatherMost_96 di_10 (Nat.zero_lt_succ _) rfl
theorem dX10_gatherMost_98 : decode cX10_gatherMost 98 = .ok (.iadd, 1) := dz1 (k := 2) (m := 1) dzb1_cX10_gatherMost_96 di_24 (Nat.zero_lt_succ _) rfl
theorem dX10_gatherMost_99 : decode cX10_gatherMost 99 = .ok (.iload_n 3, 1) := dz1 (k := 3) (m := 1) dzb1_cX10_gatherMost_96 di_3 (Nat.zero_lt_succ _) rfl
theorem dX10_gatherMost_100 : decode cX10_gatherMost 100 = .ok (.invokevirtual 246, 3) := dz1 (k := 4) (m := 3) dzb1_cX10_gatherMost_96 di_350 (Nat.zero_lt_succ _) rfl
theorem dX10_gatherMost_103 : decode cX10_gatherMost 103 = .ok (.iinc 5 1, 3) := dz1 (k := 7) (m := 3) dzb1_cX10_gatherMost_96 di_131 (Nat.zero_lt_succ _) rfl
theorem dX10_gatherMost_106 : decode cX10_gatherMost 106 = .ok (.goto (-53), 3) := dz1 (k := 10) (m := 3) dzb1_cX10_gatherMost_96 di_446 (Nat.zero_lt_succ _) rfl
theorem dX10_gatherMost_109 : decode cX10_gatherMost 109 = .ok (.return_, 1) := dz1 (k := 13) (m := 1) dzb1_cX10_gatherMost_96 di_2 (Nat.zero_lt_succ _) rfl
set_option maxRecDepth 100000 in
theorem dzb1_cX10_duelAhead_0 : DzLies cX10_duelAhead (.mk ⟨[0x2a, 0xb4, 0x00, 0x3c, 0x1d, 0x32, 0x3a, 0x05, 0x1d, 0x15, 0x04, 0xa2, 0x00, 0x08, 0x1d, 0x07, 0xa1, 0x00, 0x11, 0x19, 0x05, 0x1b, 0xb6, 0x01, 0x4c, 0x19, 0x05, 0x1c, 0xb6, 0x01, 0x4c, 0x64]⟩) 0 := dz_lies (m := 32) (Nat.zero_lt_succ _) rfl
theorem dX10_duelAhead_0 : decode cX10_duelAhead 0 = .ok (.aload_n 0, 1) := dz1 (k := 0) (m := 1) dzb1_cX10_duelAhead_0 di_0 (Nat.zero_lt_succ _) rfl
theorem dX10_duelAhead_1 : decode cX10_duelAhead 1 = .ok (.getfield 60, 3) := dz1 (k := 1) (m := 3) dzb1_cX10_duelAhead_0 di_227 (Nat.zero_lt_succ _) rfl
theorem dX10_duelAhead_4 : decode cX10_duelAhead 4 = .ok (.iload_n 3, 1) := dz1 (k := 4) (m := 1) dzb1_cX10_duelAhead_0 di_3 (Nat.zero_lt_succ _) rfl
theorem dX10_duelAhead_5 : decode cX10_duelAhead 5 = .ok (.aaload, 1) := dz1 (k := 5) (m := 1) dzb1_cX10_duelAhead_0 di_130 (Nat.zero_lt_succ _) rfl
theorem dX10_duelAhead_6 : decode cX10_duelAhead 6 = .ok (.astore 5, 2) := dz1 (k := 6) (m := 2) dzb1_cX10_duelAhead_0 di_56 (Nat.zero_lt_succ _) rfl
theorem dX10_duelAhead_8 : decode cX10_duelAhead 8 = .ok (.iload_n 3, 1) := dz1 (k := 8) (m := 1) dzb1_cX10_duelAhead_0 di_3 (Nat.zero_lt_succ _) rfl
theorem dX10_duelAhead_9 : decode cX10_duelAhead 9 = .ok (.iload 4, 2) := dz1 (k := 9) (m := 2) dzb1_cX10_duelAhead_0 di_52 (Nat.zero_lt_succ _) rfl
theorem dX10_duelAhead_11 : decode cX10_duelAhead 11 = .ok (.if_icmp .ge 8, 3) := dz1 (k := 11) (m := 3) dzb1_cX10_duelAhead_0 di_436 (Nat.zero_lt_succ _) rfl
theorem dX10_duelAhead_14 : decode cX10_duelAhead 14 = .ok (.iload_n 3, 1) := dz1 (k := 14) (m := 1) dzb1_cX10_duelAhead_0 di_3 (Nat.zero_lt_succ _) rfl
theorem dX10_duelAhead_15 : decode cX10_duelAhead 15 = .ok (.iconst 4, 1) := dz1 (k := 15) (m := 1) dzb1_cX10_duelAhead_0 di_33 (Nat.zero_lt_succ _) rfl
theorem dX10_duelAhead_16 : decode cX10_duelAhead 16 = .ok (.if_icmp .lt 17, 3) := dz1 (k := 16) (m := 3) dzb1_cX10_duelAhead_0 di_447 (Nat.zero_lt_succ _) rfl
theorem dX10_duelAhead_19 : decode cX10_duelAhead 19 = .ok (.aload 5, 2) := dz1 (k := 19) (m := 2) dzb1_cX10_duelAhead_0 di_57 (Nat.zero_lt_succ _) rfl
theorem dX10_duelAhead_21 : decode cX10_duelAhead 21 = .ok (.iload_n 1, 1) := dz1 (k := 21) (m := 1) dzb1_cX10_duelAhead_0 di_11 (Nat.zero_lt_succ _) rfl
theorem dX10_duelAhead_22 : decode cX10_duelAhead 22 = .ok (.invokevirtual 332, 3) := dz1 (k := 22) (m := 3) dzb1_cX10_duelAhead_0 di_448 (Nat.zero_lt_succ _) rfl
theorem dX10_duelAhead_25 : decode cX10_duelAhead 25 = .ok (.aload 5, 2) := dz1 (k := 25) (m := 2) dzb1_cX10_duelAhead_0 di_57 (Nat.zero_lt_succ _) rfl
theorem dX10_duelAhead_27 : decode cX10_duelAhead 27 = .ok (.iload_n 2, 1) := dz1 (k := 27) (m := 1) dzb1_cX10_duelAhead_0 di_28 (Nat.zero_lt_succ _) rfl
theorem dX10_duelAhead_28 : decode cX10_duelAhead 28 = .ok (.invokevirtual 332, 3) := dz1 (k := 28) (m := 3) dzb1_cX10_duelAhead_0 di_448 (Nat.zero_lt_succ _) rfl
theorem dX10_duelAhead_31 : decode cX10_duelAhead 31 = .ok (.isub, 1) := dz1 (k := 31) (m := 1) dzb1_cX10_duelAhead_0 di_14 (Nat.zero_lt_succ _) rfl
set_option maxRecDepth 100000 in
theorem dzb1_cX10_duelAhead_32 : DzLies cX10_duelAhead (.mk ⟨[0xac, 0x1d, 0x05, 0x70, 0x9a, 0x00, 0x07, 0x04, 0xa7, 0x00, 0x04, 0x03, 0x36, 0x06, 0x15, 0x06, 0x99, 0x00, 0x08, 0x10, 0x9c, 0xa7, 0x00, 0x05, 0x10, 0x64, 0x36, 0x07, 0x04, 0x36, 0x08, 0x15, 0x08]⟩) 32 := dz_lies (m := 33) (Nat.zero_lt_succ _) rfl
theorem dX10_duelAhead_32 : decode cX10_duelAhead 32 = .ok (.ireturn, 1) := dz1 (k := 0) (m := 1) dzb1_cX10_duelAhead_32 di_13 (Nat.zero_lt_succ _) rfl
theorem dX10_duelAhead_33 : decode cX10_duelAhead 33 = .ok (.iload_n 3, 1) := dz1 (k := 1) (m := 1) dzb1_cX10_duelAhead_32 di_3 (Nat.zero_lt_succ _) rfl
theorem dX10_duelAhead_34 : decode cX10_duelAhead 34 = .ok (.iconst 2, 1) := dz1 (k := 2) (m := 1) dzb1_cX10_duelAhead_32 di_6 (Nat.zero_lt_succ _) rfl
theorem dX10_duelAhead_35 : decode cX10_duelAhead 35 = .ok (.irem, 1) := dz1 (k := 3) (m := 1) dzb1_cX10_duelAhead_32 di_5 (Nat.zero_lt_succ _) rfl
theorem dX10_duelAhead_36 : decode cX10_duelAhead 36 = .ok (.ifCond .ne 7, 3) := dz1 (k := 4) (m := 3) dzb1_cX10_duelAhead_32 di_37 (Nat.zero_lt_succ _) rfl
theorem dX10_duelAhead_39 : decode cX10_duelAhead 39 = .ok (.iconst 1, 1) := dz1 (k := 7) (m := 1) dzb1_cX10_duelAhead_32 di_10 (Nat.zero_lt_succ _) rfl
theorem dX10_duelAhead_40 : decode cX10_duelAhead 40 = .ok (.goto 4, 3) := dz1 (k := 8) (m := 3) dzb1_cX10_duelAhead_32 di_49 (Nat.zero_lt_succ _) rfl
theorem dX10_duelAhead_43 : decode cX10_duelAhead 43 = .ok (.iconst 0, 1) := dz1 (k := 11) (m := 1) dzb1_cX10_duelAhead_32 di_8 (Nat.zero_lt_succ _) rfl
theorem dX10_duelAhead_44 : decode cX10_duelAhead 44 = .ok (.istore 6, 2) := dz1 (k := 12) (m := 2) dzb1_cX10_duelAhead_32 di_114 (Nat.zero_lt_succ _) rfl
theorem dX10_duelAhead_46 : decode cX10_duelAhead 46 = .ok (.iload 6, 2) := dz1 (k := 14) (m := 2) dzb1_cX10_duelAhead_32 di_115 (Nat.zero_lt_succ _) rfl
theorem dX10_duelAhead_48 : decode cX10_duelAhead 48 = .ok (.ifCond .eq 8, 3) := dz1 (k := 16) (m := 3) dzb1_cX10_duelAhead_32 di_72 (Nat.zero_lt_succ _) rfl
theorem dX10_duelAhead_51 : decode cX10_duelAhead 51 = .ok (.bipush (-100), 2) := dz1 (k := 19) (m := 2) dzb1_cX10_duelAhead_32 di_449 (Nat.zero_lt_succ _) rfl
theorem dX10_duelAhead_53 : decode cX10_duelAhead 53 = .ok (.goto 5, 3) := dz1 (k := 21) (m := 3) dzb1_cX10_duelAhead_32 di_106 (Nat.zero_lt_succ _) rfl
theorem dX10_duelAhead_56 : decode cX10_duelAhead 56 = .ok (.bipush 100, 2) := dz1 (k := 24) (m := 2) dzb1_cX10_duelAhead_32 di_450 (Nat.zero_lt_succ _) rfl
theorem dX10_duelAhead_58 : decode cX10_duelAhead 58 = .ok (.istore 7, 2) := dz1 (k := 26) (m := 2) dzb1_cX10_duelAhead_32 di_116 (Nat.zero_lt_succ _) rfl
theorem dX10_duelAhead_60 : decode cX10_duelAhead 60 = .ok (.iconst 1, 1) := dz1 (k := 28) (m := 1) dzb1_cX10_duelAhead_32 di_10 (Nat.zero_lt_succ _) rfl
theorem dX10_duelAhead_61 : decode cX10_duelAhead 61 = .ok (.istore 8, 2) := dz1 (k := 29) (m := 2) dzb1_cX10_duelAhead_32 di_363 (Nat.zero_lt_succ _) rfl
theorem dX10_duelAhead_63 : decode cX10_duelAhead 63 = .ok (.iload 8, 2) := dz1 (k := 31) (m := 2) dzb1_cX10_duelAhead_32 di_364 (Nat.zero_lt_succ _) rfl
set_option maxRecDepth 100000 in
theorem dzb1_cX10_duelAhead_64 : DzLies cX10_duelAhead (.mk ⟨[0x08, 0x10, 0x0c, 0xa3, 0x00, 0x47, 0x19, 0x05, 0x15, 0x08, 0xb6, 0x00, 0xbf, 0x99, 0x00, 0x37, 0x2a, 0x1d, 0x15, 0x08, 0x04, 0x1b, 0x78, 0x04, 0x1c, 0x78, 0x80, 0xb6, 0x00, 0xe2, 0x57, 0x2a]⟩) 64 := dz_lies (m := 32) (Nat.zero_lt_succ _) rfl
theorem dX10_duelAhead_65 : decode cX10_duelAhead 65 = .ok (.bipush 12, 2) := dz1 (k := 1) (m := 2) dzb1_cX10_duelAhead_64 di_126 (Nat.zero_lt_succ _) rfl
theorem dX10_duelAhead_67 : decode cX10_duelAhead 67 = .ok (.if_icmp .gt 71, 3) := dz1 (k := 3) (m := 3) dzb1_cX10_duelAhead_64 di_334 (Nat.zero_lt_succ _) rfl
theorem dX10_duelAhead_70 : decode cX10_duelAhead 70 = .ok (.aload 5, 2) := dz1 (k := 6) (m := 2) dzb1_cX10_duelAhead_64 di_57 (Nat.zero_lt_succ _) rfl
theorem dX10_duelAhead_72 : decode cX10_duelAhead 72 = .ok (.iload 8, 2) := dz1 (k := 8) (m := 2) dzb1_cX10_duelAhead_64 di_364 (Nat.zero_lt_succ _) rfl
theorem dX10_duelAhead_74 : decode cX10_duelAhead 74 = .ok (.invokevirtual 191, 3) := dz1 (k := 10) (m := 3) dzb1_cX10_duelAhead_64 di_307 (Nat.zero_lt_succ _) rfl
theorem dX10_duelAhead_77 : decode cX10_duelAhead 77 = .ok (.ifCond .eq 55, 3) := dz1 (k := 13) (m := 3) dzb1_cX10_duelAhead_64 di_451 (Nat.zero_lt_succ _) rfl
theorem dX10_duelAhead_80 : decode cX10_duelAhead 80 = .ok (.aload_n 0, 1) := dz1 (k := 16) (m := 1) dzb1_cX10_duelAhead_64 di_0 (Nat.zero_lt_succ _) rfl
theorem dX10_duelAhead_81 : decode cX10_duelAhead 81 = .ok (.iload_n 3, 1) := dz1 (k := 17) (m := 1) dzb1_cX10_duelAhead_64 di_3 (Nat.zero_lt_succ _) rfl
theorem dX10_duelAhead_82 : decode cX10_duelAhead 82 = .ok (.iload 8, 2) := dz1 (k := 18) (m := 2) dzb1_cX10_duelAhead_64 di_364 (Nat.zero_lt_succ _) rfl
theorem dX10_duelAhead_84 : decode cX10_duelAhead 84 = .ok (.iconst 1, 1) := dz1 (k := 20) (m := 1) dzb1_cX10_duelAhead_64 di_10 (Nat.zero_lt_succ _) rfl
theorem dX10_duelAhead_85 : decode cX10_duelAhead 85 = .ok (.iload_n 1, 1) := dz1 (k := 21) (m := 1) dzb1_cX10_duelAhead_64 di_11 (Nat.zero_lt_succ _) rfl
theorem dX10_duelAhead_86 : decode cX10_duelAhead 86 = .ok (.ishl, 1) := dz1 (k := 22) (m := 1) dzb1_cX10_duelAhead_64 di_12 (Nat.zero_lt_succ _) rfl
theorem dX10_duelAhead_87 : decode cX10_duelAhead 87 = .ok (.iconst 1, 1) := dz1 (k := 23) (m := 1) dzb1_cX10_duelAhead_64 di_10 (Nat.zero_lt_succ _) rfl
theorem dX10_duelAhead_88 : decode cX10_duelAhead 88 = .ok (.iload_n 2, 1) := dz1 (k := 24) (m := 1) dzb1_cX10_duelAhead_64 di_28 (Nat.zero_lt_succ _) rfl
theorem dX10_duelAhead_89 : decode cX10_duelAhead 89 = .ok (.ishl, 1) := dz1 (k := 25) (m := 1) dzb1_cX10_duelAhead_64 di_12 (Nat.zero_lt_succ _) rfl
theorem dX10_duelAhead_90 : decode cX10_duelAhead 90 = .ok (.ior, 1) := dz1 (k := 26) (m := 1) dzb1_cX10_duelAhead_64 di_62 (Nat.zero_lt_succ _) rfl
theorem dX10_duelAhead_91 : decode cX10_duelAhead 91 = .ok (.invokevirtual 226, 3) := dz1 (k := 27) (m := 3) dzb1_cX10_duelAhead_64 di_336 (Nat.zero_lt_succ _) rfl
theorem dX10_duelAhead_94 : decode cX10_duelAhead 94 = .ok (.pop, 1) := dz1 (k := 30) (m := 1) dzb1_cX10_duelAhead_64 di_331 (Nat.zero_lt_succ _) rfl
theorem dX10_duelAhead_95 : decode cX10_duelAhead 95 = .ok (.aload_n 0, 1) := dz1 (k := 31) (m := 1) dzb1_cX10_duelAhead_64 di_0 (Nat.zero_lt_succ _) rfl
set_option maxRecDepth 100000 in
theorem dzb1_cX10_duelAhead_96 : DzLies cX10_duelAhead (.mk ⟨[0x1b, 0x1c, 0x1d, 0x04, 0x60, 0x15, 0x04, 0xb6, 0x01, 0x0c, 0x36, 0x09, 0x15, 0x06, 0x99, 0x00, 0x0d, 0x15, 0x07, 0x15, 0x09, 0xb8, 0x01, 0x4f, 0xa7, 0x00, 0x0a, 0x15, 0x07, 0x15, 0x09, 0xb8, 0x01, 0x44]⟩) 96 := dz_lies (m := 34) (Nat.zero_lt_succ _) rfl
theorem dX10_duelAhead_96 : decode cX10_duelAhead 96 = .ok (.iload_n 1, 1) := dz1 (k := 0) (m := 1) dzb1_cX10_duelAhead_96 di_11 (Nat.zero_lt_succ _) rfl
theorem dX10_duelAhead_97 : decode cX10_duelAhead 97 = .ok (.iload_n 2, 1) := dz1 (k := 1) (m := 1) dzb1_cX10_duelAhead_96 di_28 (Nat.zero_lt_succ _) rfl
theorem dX10_duelAhead_98 : decode cX10_duelAhead 98 = .ok (.iload_n 3, 1) := dz1 (k := 2) (m := 1) dzb1_cX10_duelAhead_96 di_3 (Nat.zero_lt_succ _) rfl
theorem dX10_duelAhead_99 : decode cX10_duelAhead 99 = .ok (.iconst 1, 1) := dz1 (k := 3) (m := 1) dzb1_cX10_duelAhead_96 di_10 (Nat.zero_lt_succ _) rfl
theorem dX10_duelAhead_100 : decode cX10_duelAhead 100 = .ok (.iadd, 1) := dz1 (k := 4) (m := 1) dzb1_cX10_duelAhead_96 di_24 (Nat.zero_lt_succ _) rfl
theorem dX10_duelAhead_101 : decode cX10_duelAhead 101 = .ok (.iload 4, 2) := dz1 (k := 5) (m := 2) dzb1_cX10_duelAhead_96 di_52 (Nat.zero_lt_succ _) rfl
theorem dX10_duelAhead_103 : decode cX10_duelAhead 103 = .ok (.invokevirtual 268, 3) := dz1 (k := 7) (m := 3) dzb1_cX10_duelAhead_96 di_370 (Nat.zero_lt_succ _) rfl
theorem dX10_duelAhead_106 : decode cX10_duelAhead 106 = .ok (.istore 9, 2) := dz1 (k := 10) (m := 2) dzb1_cX10_duelAhead_96 di_452 (Nat.zero_lt_succ _) rfl
theorem dX10_duelAhead_108 : decode cX10_duelAhead 108 = .ok (.iload 6, 2) := dz1 (k := 12) (m := 2) dzb1_cX10_duelAhead_96 di_115 (Nat.zero_lt_succ _) rfl
theorem dX10_duelAhead_110 : decode cX10_duelAhead 110 = .ok (.ifCond .eq 13, 3) := dz1 (k := 14) (m := 3) dzb1_cX10_duelAhead_96 di_277 (Nat.zero_lt_succ _) rfl
theorem dX10_duelAhead_113 : decode cX10_duelAhead 113 = .ok (.iload 7, 2) := dz1 (k := 17) (m := 2) dzb1_cX10_duelAhead_96 di_117 (Nat.zero_lt_succ _) rfl
theorem dX10_duelAhead_115 : decode cX10_duelAhead 115 = .ok (.iload 9, 2) := dz1 (k := 19) (m := 2) dzb1_cX10_duelAhead_96 di_453 (Nat.zero_lt_succ _) rfl
theorem dX10_duelAhead_117 : decode cX10_duelAhead 117 = .ok (.invokestatic 335, 3) := dz1 (k := 21) (m := 3) dzb1_cX10_duelAhead_96 di_454 (Nat.zero_lt_succ _) rfl
theorem dX10_duelAhead_120 : decode cX10_duelAhead 120 = .ok (.goto 10, 3) := dz1 (k := 24) (m := 3) dzb1_cX10_duelAhead_96 di_455 (Nat.zero_lt_succ _) rfl
theorem dX10_duelAhead_123 : decode cX10_duelAhead 123 = .ok (.iload 7, 2) := dz1 (k := 27) (m := 2) dzb1_cX10_duelAhead_96 di_117 (Nat.zero_lt_succ _) rfl
theorem dX10_duelAhead_125 : decode cX10_duelAhead 125 = .ok (.iload 9, 2) := dz1 (k := 29) (m := 2) dzb1_cX10_duelAhead_96 di_453 (Nat.zero_lt_succ _) rfl
theorem dX10_duelAhead_127 : decode cX10_duelAhead 127 = .ok (.invokestatic 324, 3) := dz1 (k := 31) (m := 3) dzb1_cX10_duelAhead_96 di_434 (Nat.zero_lt_succ _) rfl
set_option maxRecDepth 100000 in
theorem dzb1_cX10_duelAhead_128 : DzLies cX10_duelAhead (.mk ⟨[0x01, 0x44, 0x36, 0x07, 0x84, 0x08, 0x01, 0xa7, 0xff, 0xb8, 0x15, 0x07, 0xac]⟩) 128 := dz_lies (m := 13) (Nat.zero_lt_succ _) rfl
theorem dX10_duelAhead_130 : decode cX10_duelAhead 130 = .ok (.istore 7, 2) := dz1 (k := 2) (m := 2) dzb1_cX10_duelAhead_128 di_116 (Nat.zero_lt_succ _) rfl
theorem dX10_duelAhead_132 : decode cX10_duelAhead 132 = .ok (.iinc 8 1, 3) := dz1 (k := 4) (m := 3) dzb1_cX10_duelAhead_128 di_456 (Nat.zero_lt_succ _) rfl
theorem dX10_duelAhead_135 : decode cX10_duelAhead 135 = .ok (.goto (-72), 3) := dz1 (k := 7) (m := 3) dzb1_cX10_duelAhead_128 di_341 (Nat.zero_lt_succ _) rfl
theorem dX10_duelAhead_138 : decode cX10_duelAhead 138 = .ok (.iload 7, 2) := dz1 (k := 10) (m := 2) dzb1_cX10_duelAhead_128 di_117 (Nat.zero_lt_succ _) rfl
theorem dX10_duelAhead_140 : decode cX10_duelAhead 140 = .ok (.ireturn, 1) := dz1 (k := 12) (m := 1) dzb1_cX10_duelAhead_128 di_13 (Nat.zero_lt_succ _) rfl
set_option maxRecDepth 100000 in
theorem dzb1_cX10_marksBy_0 : DzLies cX10_marksBy (.mk ⟨[0x2a, 0xb4, 0x00, 0x24, 0xb4, 0x01, 0x52, 0x1b, 0x32, 0x1d, 0x2a, 0xb4, 0x00, 0x2d, 0xb4, 0x00, 0xb1, 0x2a, 0xb4, 0x00, 0x2d, 0xb4, 0x00, 0xa4, 0xb6, 0x00, 0xd3, 0x36, 0x04, 0x2a, 0xb4, 0x00, 0x24]⟩) 0 := dz_lies (m := 33) (Nat.zero_lt_succ _) rfl
theorem dX10_marksBy_0 : decode cX10_marksBy 0 = .ok (.aload_n 0, 1) := dz1 (k := 0) (m := 1) dzb1_cX10_marksBy_0 di_0 (Nat.zero_lt_succ _) rfl
theorem dX10_marksBy_1 : decode cX10_marksBy 1 = .ok (.getfield 36, 3) := dz1 (k := 1) (m := 3) dzb1_cX10_marksBy_0 di_205 (Nat.zero_lt_succ _) rfl
theorem dX10_marksBy_4 : decode cX10_marksBy 4 = .ok (.getfield 338, 3) := dz1 (k := 4) (m := 3) dzb1_cX10_marksBy_0 di_457 (Nat.zero_lt_succ _) rfl
theorem dX10_marksBy_7 : decode cX10_marksBy 7 = .ok (.iload_n 1, 1) := dz1 (k := 7) (m := 1) dzb1_cX10_marksBy_0 di_11 (Nat.zero_lt_succ _) rfl
theorem dX10_marksBy_8 : decode cX10_marksBy 8 = .ok (.aaload, 1) := dz1 (k := 8) (m := 1) dzb1_cX10_marksBy_0 di_130 (Nat.zero_lt_succ _) rfl
theorem dX10_marksBy_9 : decode cX10_marksBy 9 = .ok (.iload_n 3, 1) := dz1 (k := 9) (m := 1) dzb1_cX10_marksBy_0 di_3 (Nat.zero_lt_succ _) rfl
theorem dX10_marksBy_10 : decode cX10_marksBy 10 = .ok (.aload_n 0, 1) := dz1 (k := 10) (m := 1) dzb1_cX10_marksBy_0 di_0 (Nat.zero_lt_succ _) rfl
theorem dX10_marksBy_11 : decode cX10_marksBy 11 = .ok (.getfield 45, 3) := dz1 (k := 11) (m := 3) dzb1_cX10_marksBy_0 di_153 (Nat.zero_lt_succ _) rfl
theorem dX10_marksBy_14 : decode cX10_marksBy 14 = .ok (.getfield 177, 3) := dz1 (k := 14) (m := 3) dzb1_cX10_marksBy_0 di_300 (Nat.zero_lt_succ _) rfl
theorem dX10_marksBy_17 : decode cX10_marksBy 17 = .ok (.aload_n 0, 1) := dz1 (k := 17) (m := 1) dzb1_cX10_marksBy_0 di_0 (Nat.zero_lt_succ _) rfl
theorem dX10_marksBy_18 : decode cX10_marksBy 18 = .ok (.getfield 45, 3) := dz1 (k := 18) (m := 3) dzb1_cX10_marksBy_0 di_153 (Nat.zero_lt_succ _) rfl
theorem dX10_marksBy_21 : decode cX10_marksBy 21 = .ok (.getfield 164, 3) := dz1 (k := 21) (m := 3) dzb1_cX10_marksBy_0 di_294 (Nat.zero_lt_succ _) rfl
theorem dX10_marksBy_24 : decode cX10_marksBy 24 = .ok (.invokevirtual 211, 3) := dz1 (k := 24) (m := 3) dzb1_cX10_marksBy_0 di_323 (Nat.zero_lt_succ _) rfl
theorem dX10_marksBy_27 : decode cX10_marksBy 27 = .ok (.istore 4, 2) := dz1 (k := 27) (m := 2) dzb1_cX10_marksBy_0 di_51 (Nat.zero_lt_succ _) rfl
theorem dX10_marksBy_29 : decode cX10_marksBy 29 = .ok (.aload_n 0, 1) := dz1 (k := 29) (m := 1) dzb1_cX10_marksBy_0 di_0 (Nat.zero_lt_succ _) rfl
theorem dX10_marksBy_30 : decode cX10_marksBy 30 = .ok (.getfield 36, 3) := dz1 (k := 30) (m := 3) dzb1_cX10_marksBy_0 di_205 (Nat.zero_lt_succ _) rfl
set_option maxRecDepth 100000 in
theorem dzb1_cX10_marksBy_32 : DzLies cX10_marksBy (.mk ⟨[0x24, 0x1c, 0x2a, 0xb4, 0x00, 0x2d, 0xb4, 0x00, 0x9c, 0x1c, 0x2e, 0x15, 0x04, 0xb6, 0x01, 0x56, 0xac]⟩) 32 := dz_lies (m := 17) (Nat.zero_lt_succ _) rfl
theorem dX10_marksBy_33 : decode cX10_marksBy 33 = .ok (.iload_n 2, 1) := dz1 (k := 1) (m := 1) dzb1_cX10_marksBy_32 di_28 (Nat.zero_lt_succ _) rfl
theorem dX10_marksBy_34 : decode cX10_marksBy 34 = .ok (.aload_n 0, 1) := dz1 (k := 2) (m := 1) dzb1_cX10_marksBy_32 di_0 (Nat.zero_lt_succ _) rfl
theorem dX10_marksBy_35 : decode cX10_marksBy 35 = .ok (.getfield 45, 3) := dz1 (k := 3) (m := 3) dzb1_cX10_marksBy_32 di_153 (Nat.zero_lt_succ _) rfl
theorem dX10_marksBy_38 : decode cX10_marksBy 38 = .ok (.getfield 156, 3) := dz1 (k := 6) (m := 3) dzb1_cX10_marksBy_32 di_288 (Nat.zero_lt_succ _) rfl
theorem dX10_marksBy_41 : decode cX10_marksBy 41 = .ok (.iload_n 2, 1) := dz1 (k := 9) (m := 1) dzb1_cX10_marksBy_32 di_28 (Nat.zero_lt_succ _) rfl
theorem dX10_marksBy_42 : decode cX10_marksBy 42 = .ok (.iaload, 1) := dz1 (k := 10) (m := 1) dzb1_cX10_marksBy_32 di_30 (Nat.zero_lt_succ _) rfl
theorem dX10_marksBy_43 : decode cX10_marksBy 43 = .ok (.iload 4, 2) := dz1 (k := 11) (m := 2) dzb1_cX10_marksBy_32 di_52 (Nat.zero_lt_succ _) rfl
theorem dX10_marksBy_45 : decode cX10_marksBy 45 = .ok (.invokevirtual 342, 3) := dz1 (k := 13) (m := 3) dzb1_cX10_marksBy_32 di_458 (Nat.zero_lt_succ _) rfl
theorem dX10_marksBy_48 : decode cX10_marksBy 48 = .ok (.ireturn, 1) := dz1 (k := 16) (m := 1) dzb1_cX10_marksBy_32 di_13 (Nat.zero_lt_succ _) rfl
set_option maxRecDepth 100000 in
theorem dzb1_cX10_fittingKinds_0 : DzLies cX10_fittingKinds (.mk ⟨[0x03, 0x3e, 0x03, 0x36, 0x04, 0x15, 0x04, 0x10, 0x06, 0xa2, 0x00, 0x1b, 0x2a, 0x15, 0x04, 0x1b, 0x1c, 0xb6, 0x01, 0x59, 0x99, 0x00, 0x0a, 0x1d, 0x04, 0x15, 0x04, 0x78, 0x80, 0x3e, 0x84, 0x04, 0x01]⟩) 0 := dz_lies (m := 33) (Nat.zero_lt_succ _) rfl
theorem dX10_fittingKinds_0 : decode cX10_fittingKinds 0 = .ok (.iconst 0, 1) := dz1 (k := 0) (m := 1) dzb1_cX10_fittingKinds_0 di_8 (Nat.zero_lt_succ _) rfl
theorem dX10_fittingKinds_1 : decode cX10_fittingKinds 1 = .ok (.istore_n 3, 1) := dz1 (k := 1) (m := 1) dzb1_cX10_fittingKinds_0 di_50 (Nat.zero_lt_succ _) rfl
theorem dX10_fittingKinds_2 : decode cX10_fittingKinds 2 = .ok (.iconst 0, 1) := dz1 (k := 2) (m := 1) dzb1_cX10_fittingKinds_0 di_8 (Nat.zero_lt_succ _) rfl
theorem dX10_fittingKinds_3 : decode cX10_fittingKinds 3 = .ok (.istore 4, 2) := dz1 (k := 3) (m := 2) dzb1_cX10_fittingKinds_0 di_51 (Nat.zero_lt_succ _) rfl
theorem dX10_fittingKinds_5 : decode cX10_fittingKinds 5 = .ok (.iload 4, 2) := dz1 (k := 5) (m := 2) dzb1_cX10_fittingKinds_0 di_52 (Nat.zero_lt_succ _) rfl
theorem dX10_fittingKinds_7 : decode cX10_fittingKinds 7 = .ok (.bipush 6, 2) := dz1 (k := 7) (m := 2) dzb1_cX10_fittingKinds_0 di_86 (Nat.zero_lt_succ _) rfl
theorem dX10_fittingKinds_9 : decode cX10_fittingKinds 9 = .ok (.if_icmp .ge 27, 3) := dz1 (k := 9) (m := 3) dzb1_cX10_fittingKinds_0 di_428 (Nat.zero_lt_succ _) rfl
theorem dX10_fittingKinds_12 : decode cX10_fittingKinds 12 = .ok (.aload_n 0, 1) := dz1 (k := 12) (m := 1) dzb1_cX10_fittingKinds_0 di_0 (Nat.zero_lt_succ _) rfl
theorem dX10_fittingKinds_13 : decode cX10_fittingKinds 13 = .ok (.iload 4, 2) := dz1 (k := 13) (m := 2) dzb1_cX10_fittingKinds_0 di_52 (Nat.zero_lt_succ _) rfl
theorem dX10_fittingKinds_15 : decode cX10_fittingKinds 15 = .ok (.iload_n 1, 1) := dz1 (k := 15) (m := 1) dzb1_cX10_fittingKinds_0 di_11 (Nat.zero_lt_succ _) rfl
theorem dX10_fittingKinds_16 : decode cX10_fittingKinds 16 = .ok (.iload_n 2, 1) := dz1 (k := 16) (m := 1) dzb1_cX10_fittingKinds_0 di_28 (Nat.zero_lt_succ _) rfl
theorem dX10_fittingKinds_17 : decode cX10_fittingKinds 17 = .ok (.invokevirtual 345, 3) := dz1 (k := 17) (m := 3) dzb1_cX10_fittingKinds_0 di_459 (Nat.zero_lt_succ _) rfl
theorem dX10_fittingKinds_20 : decode cX10_fittingKinds 20 = .ok (.ifCond .eq 10, 3) := dz1 (k := 20) (m := 3) dzb1_cX10_fittingKinds_0 di_460 (Nat.zero_lt_succ _) rfl
theorem dX10_fittingKinds_23 : decode cX10_fittingKinds 23 = .ok (.iload_n 3, 1) := dz1 (k := 23) (m := 1) dzb1_cX10_fittingKinds_0 di_3 (Nat.zero_lt_succ _) rfl
theorem dX10_fittingKinds_24 : decode cX10_fittingKinds 24 = .ok (.iconst 1, 1) := dz1 (k := 24) (m := 1) dzb1_cX10_fittingKinds_0 di_10 (Nat.zero_lt_succ _) rfl
theorem dX10_fittingKinds_25 : decode cX10_fittingKinds 25 = .ok (.iload 4, 2) := dz1 (k := 25) (m := 2) dzb1_cX10_fittingKinds_0 di_52 (Nat.zero_lt_succ _) rfl
theorem dX10_fittingKinds_27 : decode cX10_fittingKinds 27 = .ok (.ishl, 1) := dz1 (k := 27) (m := 1) dzb1_cX10_fittingKinds_0 di_12 (Nat.zero_lt_succ _) rfl
theorem dX10_fittingKinds_28 : decode cX10_fittingKinds 28 = .ok (.ior, 1) := dz1 (k := 28) (m := 1) dzb1_cX10_fittingKinds_0 di_62 (Nat.zero_lt_succ _) rfl
theorem dX10_fittingKinds_29 : decode cX10_fittingKinds 29 = .ok (.istore_n 3, 1) := dz1 (k := 29) (m := 1) dzb1_cX10_fittingKinds_0 di_50 (Nat.zero_lt_succ _) rfl
theorem dX10_fittingKinds_30 : decode cX10_fittingKinds 30 = .ok (.iinc 4 1, 3) := dz1 (k := 30) (m := 3) dzb1_cX10_fittingKinds_0 di_63 (Nat.zero_lt_succ _) rfl
set_option maxRecDepth 100000 in
theorem dzb1_cX10_fittingKinds_32 : DzLies cX10_fittingKinds (.mk ⟨[0x01, 0xa7, 0xff, 0xe4, 0x1d, 0xac]⟩) 32 := dz_lies (m := 6) (Nat.zero_lt_succ _) rfl
theorem dX10_fittingKinds_33 : decode cX10_fittingKinds 33 = .ok (.goto (-28), 3) := dz1 (k := 1) (m := 3) dzb1_cX10_fittingKinds_32 di_461 (Nat.zero_lt_succ _) rfl
theorem dX10_fittingKinds_36 : decode cX10_fittingKinds 36 = .ok (.iload_n 3, 1) := dz1 (k := 4) (m := 1) dzb1_cX10_fittingKinds_32 di_3 (Nat.zero_lt_succ _) rfl
theorem dX10_fittingKinds_37 : decode cX10_fittingKinds 37 = .ok (.ireturn, 1) := dz1 (k := 5) (m := 1) dzb1_cX10_fittingKinds_32 di_13 (Nat.zero_lt_succ _) rfl
set_option maxRecDepth 100000 in
theorem dzb1_cX10_fitsPairs_0 : DzLies cX10_fitsPairs (.mk ⟨[0x2a, 0xb4, 0x00, 0x2d, 0xb4, 0x00, 0x9c, 0x1c, 0x2e, 0x36, 0x04, 0x2a, 0xb4, 0x00, 0x2d, 0xb4, 0x01, 0x06, 0x36, 0x05, 0x2a, 0xb4, 0x00, 0x2d, 0xb4, 0x00, 0xb1, 0x36, 0x06, 0x2a, 0xb4, 0x00, 0x2d]⟩) 0 := dz_lies (m := 33) (Nat.zero_lt_succ _) rfl
theorem dX10_fitsPairs_0 : decode cX10_fitsPairs 0 = .ok (.aload_n 0, 1) := dz1 (k := 0) (m := 1) dzb1_cX10_fitsPairs_0 di_0 (Nat.zero_lt_succ _) rfl
theorem dX10_fitsPairs_1 : decode cX10_fitsPairs 1 = .ok (.getfield 45, 3) := dz1 (k := 1) (m := 3) dzb1_cX10_fitsPairs_0 di_153 (Nat.zero_lt_succ _) rfl
theorem dX10_fitsPairs_4 : decode cX10_fitsPairs 4 = .ok (.getfield 156, 3) := dz1 (k := 4) (m := 3) dzb1_cX10_fitsPairs_0 di_288 (Nat.zero_lt_succ _) rfl
theorem dX10_fitsPairs_7 : decode cX10_fitsPairs 7 = .ok (.iload_n 2, 1) := dz1 (k := 7) (m := 1) dzb1_cX10_fitsPairs_0 di_28 (Nat.zero_lt_succ _) rfl
theorem dX10_fitsPairs_8 : decode cX10_fitsPairs 8 = .ok (.iaload, 1) := dz1 (k := 8) (m := 1) dzb1_cX10_fitsPairs_0 di_30 (Nat.zero_lt_succ _) rfl
theorem dX10_fitsPairs_9 : decode cX10_fitsPairs 9 = .ok (.istore 4, 2) := dz1 (k := 9) (m := 2) dzb1_cX10_fitsPairs_0 di_51 (Nat.zero_lt_succ _) rfl
theorem dX10_fitsPairs_11 : decode cX10_fitsPairs 11 = .ok (.aload_n 0, 1) := dz1 (k := 11) (m := 1) dzb1_cX10_fitsPairs_0 di_0 (Nat.zero_lt_succ _) rfl
theorem dX10_fitsPairs_12 : decode cX10_fitsPairs 12 = .ok (.getfield 45, 3) := dz1 (k := 12) (m := 3) dzb1_cX10_fitsPairs_0 di_153 (Nat.zero_lt_succ _) rfl
theorem dX10_fitsPairs_15 : decode cX10_fitsPairs 15 = .ok (.getfield 262, 3) := dz1 (k := 15) (m := 3) dzb1_cX10_fitsPairs_0 di_359 (Nat.zero_lt_succ _) rfl
theorem dX10_fitsPairs_18 : decode cX10_fitsPairs 18 = .ok (.istore 5, 2) := dz1 (k := 18) (m := 2) dzb1_cX10_fitsPairs_0 di_100 (Nat.zero_lt_succ _) rfl
theorem dX10_fitsPairs_20 : decode cX10_fitsPairs 20 = .ok (.aload_n 0, 1) := dz1 (k := 20) (m := 1) dzb1_cX10_fitsPairs_0 di_0 (Nat.zero_lt_succ _) rfl
theorem dX10_fitsPairs_21 : decode cX10_fitsPairs 21 = .ok (.getfield 45, 3) := dz1 (k := 21) (m := 3) dzb1_cX10_fitsPairs_0 di_153 (Nat.zero_lt_succ _) rfl
theorem dX10_fitsPairs_24 : decode cX10_fitsPairs 24 = .ok (.getfield 177, 3) := dz1 (k := 24) (m := 3) dzb1_cX10_fitsPairs_0 di_300 (Nat.zero_lt_succ _) rfl
theorem dX10_fitsPairs_27 : decode cX10_fitsPairs 27 = .ok (.istore 6, 2) := dz1 (k := 27) (m := 2) dzb1_cX10_fitsPairs_0 di_114 (Nat.zero_lt_succ _) rfl
theorem dX10_fitsPairs_29 : decode cX10_fitsPairs 29 = .ok (.aload_n 0, 1) := dz1 (k := 29) (m := 1) dzb1_cX10_fitsPairs_0 di_0 (Nat.zero_lt_succ _) rfl
theorem dX10_fitsPairs_30 : decode cX10_fitsPairs 30 = .ok (.getfield 45, 3) := dz1 (k := 30) (m := 3) dzb1_cX10_fitsPairs_0 di_153 (Nat.zero_lt_succ _) rfl
set_option maxRecDepth 100000 in
theorem dzb1_cX10_fitsPairs_32 : DzLies cX10_fitsPairs (.mk ⟨[0x2d, 0xb4, 0x00, 0xa4, 0x36, 0x07, 0x03, 0x36, 0x08, 0x15, 0x08, 0x04, 0x60, 0x2a, 0xb4, 0x00, 0x0e, 0x1d, 0x2e, 0xa2, 0x00, 0x65, 0x2a, 0xb4, 0x00, 0x0b, 0x1d, 0x32, 0x15, 0x08, 0x2e, 0x36, 0x09]⟩) 32 := dz_lies (m := 33) (Nat.zero_lt_succ _) rfl
theorem dX10_fitsPairs_33 : decode cX10_fitsPairs 33 = .ok (.getfield 164, 3) := dz1 (k := 1) (m := 3) dzb1_cX10_fitsPairs_32 di_294 (Nat.zero_lt_succ _) rfl
theorem dX10_fitsPairs_36 : decode cX10_fitsPairs 36 = .ok (.istore 7, 2) := dz1 (k := 4) (m := 2) dzb1_cX10_fitsPairs_32 di_116 (Nat.zero_lt_succ _) rfl
theorem dX10_fitsPairs_38 : decode cX10_fitsPairs 38 = .ok (.iconst 0, 1) := dz1 (k := 6) (m := 1) dzb1_cX10_fitsPairs_32 di_8 (Nat.zero_lt_succ _) rfl
theorem dX10_fitsPairs_39 : decode cX10_fitsPairs 39 = .ok (.istore 8, 2) := dz1 (k := 7) (m := 2) dzb1_cX10_fitsPairs_32 di_363 (Nat.zero_lt_succ _) rfl
theorem dX10_fitsPairs_41 : decode cX10_fitsPairs 41 = .ok (.iload 8, 2) := dz1 (k := 9) (m := 2) dzb1_cX10_fitsPairs_32 di_364 (Nat.zero_lt_succ _) rfl
theorem dX10_fitsPairs_43 : decode cX10_fitsPairs 43 = .ok (.iconst 1, 1) := dz1 (k := 11) (m := 1) dzb1_cX10_fitsPairs_32 di_10 (Nat.zero_lt_succ _) rfl
theorem dX10_fitsPairs_44 : decode cX10_fitsPairs 44 = .ok (.iadd, 1) := dz1 (k := 12) (m := 1) dzb1_cX10_fitsPairs_32 di_24 (Nat.zero_lt_succ _) rfl
theorem dX10_fitsPairs_45 : decode cX10_fitsPairs 45 = .ok (.aload_n 0, 1) := dz1 (k := 13) (m := 1) dzb1_cX10_fitsPairs_32 di_0 (Nat.zero_lt_succ _) rfl
theorem dX10_fitsPairs_46 : decode cX10_fitsPairs 46 = .ok (.getfield 14, 3) := dz1 (k := 14) (m := 3) dzb1_cX10_fitsPairs_32 di_220 (Nat.zero_lt_succ _) rfl
theorem dX10_fitsPairs_49 : decode cX10_fitsPairs 49 = .ok (.iload_n 3, 1) := dz1 (k := 17) (m := 1) dzb1_cX10_fitsPairs_32 di_3 (Nat.zero_lt_succ _) rfl
theorem dX10_fitsPairs_50 : decode cX10_fitsPairs 50 = .ok (.iaload, 1) := dz1 (k := 18) (m := 1) dzb1_cX10_fitsPairs_32 di_30 (Nat.zero_lt_succ _) rfl
theorem dX10_fitsPairs_51 : decode cX10_fitsPairs 51 = .ok (.if_icmp .ge 101, 3) := dz1 (k := 19) (m := 3) dzb1_cX10_fitsPairs_32 di_462 (Nat.zero_lt_succ _) rfl
theorem dX10_fitsPairs_54 : decode cX10_fitsPairs 54 = .ok (.aload_n 0, 1) := dz1 (k := 22) (m := 1) dzb1_cX10_fitsPairs_32 di_0 (Nat.zero_lt_succ _) rfl
theorem dX10_fitsPairs_55 : decode cX10_fitsPairs 55 = .ok (.getfield 11, 3) := dz1 (k := 23) (m := 3) dzb1_cX10_fitsPairs_32 di_233 (Nat.zero_lt_succ _) rfl
theorem dX10_fitsPairs_58 : decode cX10_fitsPairs 58 = .ok (.iload_n 3, 1) := dz1 (k := 26) (m := 1) dzb1_cX10_fitsPairs_32 di_3 (Nat.zero_lt_succ _) rfl
theorem dX10_fitsPairs_59 : decode cX10_fitsPairs 59 = .ok (.aaload, 1) := dz1 (k := 27) (m := 1) dzb1_cX10_fitsPairs_32 di_130 (Nat.zero_lt_succ _) rfl
theorem dX10_fitsPairs_60 : decode cX10_fitsPairs 60 = .ok (.iload 8, 2) := dz1 (k := 28) (m := 2) dzb1_cX10_fitsPairs_32 di_364 (Nat.zero_lt_succ _) rfl
theorem dX10_fitsPairs_62 : decode cX10_fitsPairs 62 = .ok (.iaload, 1) := dz1 (k := 30) (m := 1) dzb1_cX10_fitsPairs_32 di_30 (Nat.zero_lt_succ _) rfl
theorem dX10_fitsPairs_63 : decode cX10_fitsPairs 63 = .ok (.istore 9, 2) := dz1 (k := 31) (m := 2) dzb1_cX10_fitsPairs_32 di_452 (Nat.zero_lt_succ _) rfl
set_option maxRecDepth 100000 in
theorem dzb1_cX10_fitsPairs_64 : DzLies cX10_fitsPairs (.mk ⟨[0x09, 0x15, 0x05, 0x15, 0x09, 0x7a, 0x04, 0x7e, 0x9a, 0x00, 0x05, 0x03, 0xac, 0x2a, 0xb4, 0x00, 0x24, 0x1c, 0x15, 0x04, 0x2a, 0xb4, 0x00, 0x24, 0xb4, 0x01, 0x52, 0x1b, 0x32, 0x15, 0x09, 0x15, 0x06]⟩) 64 := dz_lies (m := 33) (Nat.zero_lt_succ _) rfl
theorem dX10_fitsPairs_65 : decode cX10_fitsPairs 65 = .ok (.iload 5, 2) := dz1 (k := 1) (m := 2) dzb1_cX10_fitsPairs_64 di_101 (Nat.zero_lt_succ _) rfl
theorem dX10_fitsPairs_67 : decode cX10_fitsPairs 67 = .ok (.iload 9, 2) := dz1 (k := 3) (m := 2) dzb1_cX10_fitsPairs_64 di_453 (Nat.zero_lt_succ _) rfl
theorem dX10_fitsPairs_69 : decode cX10_fitsPairs 69 = .ok (.ishr, 1) := dz1 (k := 5) (m := 1) dzb1_cX10_fitsPairs_64 di_47 (Nat.zero_lt_succ _) rfl
theorem dX10_fitsPairs_70 : decode cX10_fitsPairs 70 = .ok (.iconst 1, 1) := dz1 (k := 6) (m := 1) dzb1_cX10_fitsPairs_64 di_10 (Nat.zero_lt_succ _) rfl
theorem dX10_fitsPairs_71 : decode cX10_fitsPairs 71 = .ok (.iand, 1) := dz1 (k := 7) (m := 1) dzb1_cX10_fitsPairs_64 di_48 (Nat.zero_lt_succ _) rfl
theorem dX10_fitsPairs_72 : decode cX10_fitsPairs 72 = .ok (.ifCond .ne 5, 3) := dz1 (k := 8) (m := 3) dzb1_cX10_fitsPairs_64 di_239 (Nat.zero_lt_succ _) rfl
theorem dX10_fitsPairs_75 : decode cX10_fitsPairs 75 = .ok (.iconst 0, 1) := dz1 (k := 11) (m := 1) dzb1_cX10_fitsPairs_64 di_8 (Nat.zero_lt_succ _) rfl
theorem dX10_fitsPairs_76 : decode cX10_fitsPairs 76 = .ok (.ireturn, 1) := dz1 (k := 12) (m := 1) dzb1_cX10_fitsPairs_64 di_13 (Nat.zero_lt_succ _) rfl
theorem dX10_fitsPairs_77 : decode cX10_fitsPairs 77 = .ok (.aload_n 0, 1) := dz1 (k := 13) (m := 1) dzb1_cX10_fitsPairs_64 di_0 (Nat.zero_lt_succ _) rfl
theorem dX10_fitsPairs_78 : decode cX10_fitsPairs 78 = .ok (.getfield 36, 3) := dz1 (k := 14) (m := 3) dzb1_cX10_fitsPairs_64 di_205 (Nat.zero_lt_succ _) rfl
theorem dX10_fitsPairs_81 : decode cX10_fitsPairs 81 = .ok (.iload_n 2, 1) := dz1 (k := 17) (m := 1) dzb1_cX10_fitsPairs_64 di_28 (Nat.zero_lt_succ _) rfl
theorem dX10_fitsPairs_82 : decode cX10_fitsPairs 82 = .ok (.iload 4, 2) := dz1 (k := 18) (m := 2) dzb1_cX10_fitsPairs_64 di_52 (Nat.zero_lt_succ _) rfl
theorem dX10_fitsPairs_84 : decode cX10_fitsPairs 84 = .ok (.aload_n 0, 1) := dz1 (k := 20) (m := 1) dzb1_cX10_fitsPairs_64 di_0 (Nat.zero_lt_succ _) rfl
theorem dX10_fitsPairs_85 : decode cX10_fitsPairs 85 = .ok (.getfield 36, 3) := dz1 (k := 21) (m := 3) dzb1_cX10_fitsPairs_64 di_205 (Nat.zero_lt_succ _) rfl
theorem dX10_fitsPairs_88 : decode cX10_fitsPairs 88 = .ok (.getfield 338, 3) := dz1 (k := 24) (m := 3) dzb1_cX10_fitsPairs_64 di_457 (Nat.zero_lt_succ _) rfl
theorem dX10_fitsPairs_91 : decode cX10_fitsPairs 91 = .ok (.iload_n 1, 1) := dz1 (k := 27) (m := 1) dzb1_cX10_fitsPairs_64 di_11 (Nat.zero_lt_succ _) rfl
theorem dX10_fitsPairs_92 : decode cX10_fitsPairs 92 = .ok (.aaload, 1) := dz1 (k := 28) (m := 1) dzb1_cX10_fitsPairs_64 di_130 (Nat.zero_lt_succ _) rfl
theorem dX10_fitsPairs_93 : decode cX10_fitsPairs 93 = .ok (.iload 9, 2) := dz1 (k := 29) (m := 2) dzb1_cX10_fitsPairs_64 di_453 (Nat.zero_lt_succ _) rfl
theorem dX10_fitsPairs_95 : decode cX10_fitsPairs 95 = .ok (.iload 6, 2) := dz1 (k := 31) (m := 2) dzb1_cX10_fitsPairs_64 di_115 (Nat.zero_lt_succ _) rfl
set_option maxRecDepth 100000 in
theorem dzb1_cX10_fitsPairs_96 : DzLies cX10_fitsPairs (.mk ⟨[0x06, 0x15, 0x07, 0xb6, 0x00, 0xd3, 0xb6, 0x01, 0x56, 0x36, 0x04, 0x15, 0x04, 0xb8, 0x00, 0xe5, 0x2a, 0xb4, 0x00, 0x0b, 0x1d, 0x32, 0x15, 0x08, 0x04, 0x60, 0x2e, 0x9f, 0x00, 0x05, 0x03, 0xac]⟩) 96 := dz_lies (m := 32) (Nat.zero_lt_succ _) rfl
theorem dX10_fitsPairs_97 : decode cX10_fitsPairs 97 = .ok (.iload 7, 2) := dz1 (k := 1) (m := 2) dzb1_cX10_fitsPairs_96 di_117 (Nat.zero_lt_succ _) rfl
theorem dX10_fitsPairs_99 : decode cX10_fitsPairs 99 = .ok (.invokevirtual 211, 3) := dz1 (k := 3) (m := 3) dzb1_cX10_fitsPairs_96 di_323 (Nat.zero_lt_succ _) rfl
theorem dX10_fitsPairs_102 : decode cX10_fitsPairs 102 = .ok (.invokevirtual 342, 3) := dz1 (k := 6) (m := 3) dzb1_cX10_fitsPairs_96 di_458 (Nat.zero_lt_succ _) rfl
theorem dX10_fitsPairs_105 : decode cX10_fitsPairs 105 = .ok (.istore 4, 2) := dz1 (k := 9) (m := 2) dzb1_cX10_fitsPairs_96 di_51 (Nat.zero_lt_succ _) rfl
theorem dX10_fitsPairs_107 : decode cX10_fitsPairs 107 = .ok (.iload 4, 2) := dz1 (k := 11) (m := 2) dzb1_cX10_fitsPairs_96 di_52 (Nat.zero_lt_succ _) rfl
theorem dX10_fitsPairs_109 : decode cX10_fitsPairs 109 = .ok (.invokestatic 229, 3) := dz1 (k := 13) (m := 3) dzb1_cX10_fitsPairs_96 di_337 (Nat.zero_lt_succ _) rfl
theorem dX10_fitsPairs_112 : decode cX10_fitsPairs 112 = .ok (.aload_n 0, 1) := dz1 (k := 16) (m := 1) dzb1_cX10_fitsPairs_96 di_0 (Nat.zero_lt_succ _) rfl
theorem dX10_fitsPairs_113 : decode cX10_fitsPairs 113 = .ok (.getfield 11, 3) := dz1 (k := 17) (m := 3) dzb1_cX10_fitsPairs_96 di_233 (Nat.zero_lt_succ _) rfl
theorem dX10_fitsPairs_116 : decode cX10_fitsPairs 116 = .ok (.iload_n 3, 1) := dz1 (k := 20) (m := 1) dzb1_cX10_fitsPairs_96 di_3 (Nat.zero_lt_succ _) rfl
theorem dX10_fitsPairs_117 : decode cX10_fitsPairs 117 = .ok (.aaload, 1) := dz1 (k := 21) (m := 1) dzb1_cX10_fitsPairs_96 di_130 (Nat.zero_lt_succ _) rfl
theorem dX10_fitsPairs_118 : decode cX10_fitsPairs 118 = .ok (.iload 8, 2) := dz1 (k := 22) (m := 2) dzb1_cX10_fitsPairs_96 di_364 (Nat.zero_lt_succ _) rfl
theorem dX10_fitsPairs_120 : decode cX10_fitsPairs 120 = .ok (.iconst 1, 1) := dz1 (k := 24) (m := 1) dzb1_cX10_fitsPairs_96 di_10 (Nat.zero_lt_succ _) rfl
theorem dX10_fitsPairs_121 : decode cX10_fitsPairs 121 = .ok (.iadd, 1) := dz1 (k := 25) (m := 1) dzb1_cX10_fitsPairs_96 di_24 (Nat.zero_lt_succ _) rfl
theorem dX10_fitsPairs_122 : decode cX10_fitsPairs 122 = .ok (.iaload, 1) := dz1 (k := 26) (m := 1) dzb1_cX10_fitsPairs_96 di_30 (Nat.zero_lt_succ _) rfl
theorem dX10_fitsPairs_123 : decode cX10_fitsPairs 123 = .ok (.if_icmp .eq 5, 3) := dz1 (k := 27) (m := 3) dzb1_cX10_fitsPairs_96 di_463 (Nat.zero_lt_succ _) rfl
theorem dX10_fitsPairs_126 : decode cX10_fitsPairs 126 = .ok (.iconst 0, 1) := dz1 (k := 30) (m := 1) dzb1_cX10_fitsPairs_96 di_8 (Nat.zero_lt_succ _) rfl
theorem dX10_fitsPairs_127 : decode cX10_fitsPairs 127 = .ok (.ireturn, 1) := dz1 (k := 31) (m := 1) dzb1_cX10_fitsPairs_96 di_13 (Nat.zero_lt_succ _) rfl
set_option maxRecDepth 100000 in
theorem dzb1_cX10_fitsPairs_128 : DzLies cX10_fitsPairs (.mk ⟨[0x15, 0x05, 0x04, 0x15, 0x09, 0x78, 0x02, 0x82, 0x7e, 0x36, 0x05, 0x15, 0x09, 0x36, 0x06, 0x84, 0x07, 0x01, 0x84, 0x08, 0x02, 0xa7, 0xff, 0x94, 0x04, 0xac]⟩) 128 := dz_lies (m := 26) (Nat.zero_lt_succ _) rfl
theorem dX10_fitsPairs_128 : decode cX10_fitsPairs 128 = .ok (.iload 5, 2) := dz1 (k := 0) (m := 2) dzb1_cX10_fitsPairs_128 di_101 (Nat.zero_lt_succ _) rfl
theorem dX10_fitsPairs_130 : decode cX10_fitsPairs 130 = .ok (.iconst 1, 1) := dz1 (k := 2) (m := 1) dzb1_cX10_fitsPairs_128 di_10 (Nat.zero_lt_succ _) rfl
theorem dX10_fitsPairs_131 : decode cX10_fitsPairs 131 = .ok (.iload 9, 2) := dz1 (k := 3) (m := 2) dzb1_cX10_fitsPairs_128 di_453 (Nat.zero_lt_succ _) rfl
theorem dX10_fitsPairs_133 : decode cX10_fitsPairs 133 = .ok (.ishl, 1) := dz1 (k := 5) (m := 1) dzb1_cX10_fitsPairs_128 di_12 (Nat.zero_lt_succ _) rfl
theorem dX10_fitsPairs_134 : decode cX10_fitsPairs 134 = .ok (.iconst (-1), 1) := dz1 (k := 6) (m := 1) dzb1_cX10_fitsPairs_128 di_65 (Nat.zero_lt_succ _) rfl
theorem dX10_fitsPairs_135 : decode cX10_fitsPairs 135 = .ok (.ixor, 1) := dz1 (k := 7) (m := 1) dzb1_cX10_fitsPairs_128 di_66 (Nat.zero_lt_succ _) rfl
theorem dX10_fitsPairs_136 : decode cX10_fitsPairs 136 = .ok (.iand, 1) := dz1 (k := 8) (m := 1) dzb1_cX10_fitsPairs_128 di_48 (Nat.zero_lt_succ _) rfl
theorem dX10_fitsPairs_137 : decode cX10_fitsPairs 137 = .ok (.istore 5, 2) := dz1 (k := 9) (m := 2) dzb1_cX10_fitsPairs_128 di_100 (Nat.zero_lt_succ _) rfl
theorem dX10_fitsPairs_139 : decode cX10_fitsPairs 139 = .ok (.iload 9, 2) := dz1 (k := 11) (m := 2) dzb1_cX10_fitsPairs_128 di_453 (Nat.zero_lt_succ _) rfl
theorem dX10_fitsPairs_141 : decode cX10_fitsPairs 141 = .ok (.istore 6, 2) := dz1 (k := 13) (m := 2) dzb1_cX10_fitsPairs_128 di_114 (Nat.zero_lt_succ _) rfl
theorem dX10_fitsPairs_143 : decode cX10_fitsPairs 143 = .ok (.iinc 7 1, 3) := dz1 (k := 15) (m := 3) dzb1_cX10_fitsPairs_128 di_123 (Nat.zero_lt_succ _) rfl
theorem dX10_fitsPairs_146 : decode cX10_fitsPairs 146 = .ok (.iinc 8 2, 3) := dz1 (k := 18) (m := 3) dzb1_cX10_fitsPairs_128 di_464 (Nat.zero_lt_succ _) rfl
theorem dX10_fitsPairs_149 : decode cX10_fitsPairs 149 = .ok (.goto (-108), 3) := dz1 (k := 21) (m := 3) dzb1_cX10_fitsPairs_128 di_465 (Nat.zero_lt_succ _) rfl
theorem dX10_fitsPairs_152 : decode cX10_fitsPairs 152 = .ok (.iconst 1, 1) := dz1 (k := 24) (m := 1) dzb1_cX10_fitsPairs_128 di_10 (Nat.zero_lt_succ _) rfl
theorem dX10_fitsPairs_153 : decode cX10_fitsPairs 153 = .ok (.ireturn, 1) := dz1 (k := 25) (m := 1) dzb1_cX10_fitsPairs_128 di_13 (Nat.zero_lt_succ _) rfl
set_option maxRecDepth 100000 in
theorem dzb1_cX10_greatestPart_0 : DzLies cX10_greatestPart (.mk ⟨[0x2a, 0xb4, 0x00, 0x43, 0x03, 0xb8, 0x00, 0x4d, 0x03, 0x36, 0x04, 0x03, 0x36, 0x05, 0x15, 0x05, 0x10, 0x06, 0xa2, 0x00, 0x3c, 0x1b, 0x15, 0x05, 0x7a, 0x04, 0x7e, 0x04, 0xa0, 0x00, 0x2c, 0x2a]⟩) 0 := dz_lies (m := 32) (Nat.zero_lt_succ _) rfl
theorem dX10_greatestPart_0 : decode cX10_greatestPart 0 = .ok (.aload_n 0, 1) := dz1 (k := 0) (m := 1) dzb1_cX10_greatestPart_0 di_0 (Nat.zero_lt_succ _) rfl
theorem dX10_greatestPart_1 : decode cX10_greatestPart 1 = .ok (.getfield 67, 3) := dz1 (k := 1) (m := 3) dzb1_cX10_greatestPart_0 di_466 (Nat.zero_lt_succ _) rfl
theorem dX10_greatestPart_4 : decode cX10_greatestPart 4 = .ok (.iconst 0, 1) := dz1 (k := 4) (m := 1) dzb1_cX10_greatestPart_0 di_8 (Nat.zero_lt_succ _) rfl
theorem dX10_greatestPart_5 : decode cX10_greatestPart 5 = .ok (.invokestatic 77, 3) := dz1 (k := 5) (m := 3) dzb1_cX10_greatestPart_0 di_221 (Nat.zero_lt_succ _) rfl
theorem dX10_greatestPart_8 : decode cX10_greatestPart 8 = .ok (.iconst 0, 1) := dz1 (k := 8) (m := 1) dzb1_cX10_greatestPart_0 di_8 (Nat.zero_lt_succ _) rfl
theorem dX10_greatestPart_9 : decode cX10_greatestPart 9 = .ok (.istore 4, 2) := dz1 (k := 9) (m := 2) dzb1_cX10_greatestPart_0 di_51 (Nat.zero_lt_succ _) rfl
theorem dX10_greatestPart_11 : decode cX10_greatestPart 11 = .ok (.iconst 0, 1) := dz1 (k := 11) (m := 1) dzb1_cX10_greatestPart_0 di_8 (Nat.zero_lt_succ _) rfl
theorem dX10_greatestPart_12 : decode cX10_greatestPart 12 = .ok (.istore 5, 2) := dz1 (k := 12) (m := 2) dzb1_cX10_greatestPart_0 di_100 (Nat.zero_lt_succ _) rfl
theorem dX10_greatestPart_14 : decode cX10_greatestPart 14 = .ok (.iload 5, 2) := dz1 (k := 14) (m := 2) dzb1_cX10_greatestPart_0 di_101 (Nat.zero_lt_succ _) rfl
theorem dX10_greatestPart_16 : decode cX10_greatestPart 16 = .ok (.bipush 6, 2) := dz1 (k := 16) (m := 2) dzb1_cX10_greatestPart_0 di_86 (Nat.zero_lt_succ _) rfl
theorem dX10_greatestPart_18 : decode cX10_greatestPart 18 = .ok (.if_icmp .ge 60, 3) := dz1 (k := 18) (m := 3) dzb1_cX10_greatestPart_0 di_406 (Nat.zero_lt_succ _) rfl
theorem dX10_greatestPart_21 : decode cX10_greatestPart 21 = .ok (.iload_n 1, 1) := dz1 (k := 21) (m := 1) dzb1_cX10_greatestPart_0 di_11 (Nat.zero_lt_succ _) rfl
theorem dX10_greatestPart_22 : decode cX10_greatestPart 22 = .ok (.iload 5, 2) := dz1 (k := 22) (m := 2) dzb1_cX10_greatestPart_0 di_101 (Nat.zero_lt_succ _) rfl
theorem dX10_greatestPart_24 : decode cX10_greatestPart 24 = .ok (.ishr, 1) := dz1 (k := 24) (m := 1) dzb1_cX10_greatestPart_0 di_47 (Nat.zero_lt_succ _) rfl
theorem dX10_greatestPart_25 : decode cX10_greatestPart 25 = .ok (.iconst 1, 1) := dz1 (k := 25) (m := 1) dzb1_cX10_greatestPart_0 di_10 (Nat.zero_lt_succ _) rfl
theorem dX10_greatestPart_26 : decode cX10_greatestPart 26 = .ok (.iand, 1) := dz1 (k := 26) (m := 1) dzb1_cX10_greatestPart_0 di_48 (Nat.zero_lt_succ _) rfl
theorem dX10_greatestPart_27 : decode cX10_greatestPart 27 = .ok (.iconst 1, 1) := dz1 (k := 27) (m := 1) dzb1_cX10_greatestPart_0 di_10 (Nat.zero_lt_succ _) rfl
theorem dX10_greatestPart_28 : decode cX10_greatestPart 28 = .ok (.if_icmp .ne 44, 3) := dz1 (k := 28) (m := 3) dzb1_cX10_greatestPart_0 di_467 (Nat.zero_lt_succ _) rfl
theorem dX10_greatestPart_31 : decode cX10_greatestPart 31 = .ok (.aload_n 0, 1) := dz1 (k := 31) (m := 1) dzb1_cX10_greatestPart_0 di_0 (Nat.zero_lt_succ _) rfl
set_option maxRecDepth 100000 in
theorem dzb1_cX10_greatestPart_32 : DzLies cX10_greatestPart (.mk ⟨[0x15, 0x05, 0x1c, 0x1d, 0xb6, 0x00, 0xfd, 0x10, 0x3f, 0x7e, 0xb8, 0x00, 0xe5, 0x36, 0x06, 0x2a, 0xb4, 0x00, 0x43, 0x15, 0x06, 0x5c, 0x2e, 0x04, 0x60, 0x4f, 0x15, 0x04, 0x2a, 0xb4, 0x00, 0x43]⟩) 32 := dz_lies (m := 32) (Nat.zero_lt_succ _) rfl
theorem dX10_greatestPart_32 : decode cX10_greatestPart 32 = .ok (.iload 5, 2) := dz1 (k := 0) (m := 2) dzb1_cX10_greatestPart_32 di_101 (Nat.zero_lt_succ _) rfl
theorem dX10_greatestPart_34 : decode cX10_greatestPart 34 = .ok (.iload_n 2, 1) := dz1 (k := 2) (m := 1) dzb1_cX10_greatestPart_32 di_28 (Nat.zero_lt_succ _) rfl
theorem dX10_greatestPart_35 : decode cX10_greatestPart 35 = .ok (.iload_n 3, 1) := dz1 (k := 3) (m := 1) dzb1_cX10_greatestPart_32 di_3 (Nat.zero_lt_succ _) rfl
theorem dX10_greatestPart_36 : decode cX10_greatestPart 36 = .ok (.invokevirtual 253, 3) := dz1 (k := 4) (m := 3) dzb1_cX10_greatestPart_32 di_355 (Nat.zero_lt_succ _) rfl
theorem dX10_greatestPart_39 : decode cX10_greatestPart 39 = .ok (.bipush 63, 2) := dz1 (k := 7) (m := 2) dzb1_cX10_greatestPart_32 di_186 (Nat.zero_lt_succ _) rfl
theorem dX10_greatestPart_41 : decode cX10_greatestPart 41 = .ok (.iand, 1) := dz1 (k := 9) (m := 1) dzb1_cX10_greatestPart_32 di_48 (Nat.zero_lt_succ _) rfl
theorem dX10_greatestPart_42 : decode cX10_greatestPart 42 = .ok (.invokestatic 229, 3) := dz1 (k := 10) (m := 3) dzb1_cX10_greatestPart_32 di_337 (Nat.zero_lt_succ _) rfl
theorem dX10_greatestPart_45 : decode cX10_greatestPart 45 = .ok (.istore 6, 2) := dz1 (k := 13) (m := 2) dzb1_cX10_greatestPart_32 di_114 (Nat.zero_lt_succ _) rfl
theorem dX10_greatestPart_47 : decode cX10_greatestPart 47 = .ok (.aload_n 0, 1) := dz1 (k := 15) (m := 1) dzb1_cX10_greatestPart_32 di_0 (Nat.zero_lt_succ _) rfl
theorem dX10_greatestPart_48 : decode cX10_greatestPart 48 = .ok (.getfield 67, 3) := dz1 (k := 16) (m := 3) dzb1_cX10_greatestPart_32 di_466 (Nat.zero_lt_succ _) rfl
theorem dX10_greatestPart_51 : decode cX10_greatestPart 51 = .ok (.iload 6, 2) := dz1 (k := 19) (m := 2) dzb1_cX10_greatestPart_32 di_115 (Nat.zero_lt_succ _) rfl
theorem dX10_greatestPart_53 : decode cX10_greatestPart 53 = .ok (.dup2, 1) := dz1 (k := 21) (m := 1) dzb1_cX10_greatestPart_32 di_67 (Nat.zero_lt_succ _) rfl
theorem dX10_greatestPart_54 : decode cX10_greatestPart 54 = .ok (.iaload, 1) := dz1 (k := 22) (m := 1) dzb1_cX10_greatestPart_32 di_30 (Nat.zero_lt_succ _) rfl
theorem dX10_greatestPart_55 : decode cX10_greatestPart 55 = .ok (.iconst 1, 1) := dz1 (k := 23) (m := 1) dzb1_cX10_greatestPart_32 di_10 (Nat.zero_lt_succ _) rfl
theorem dX10_greatestPart_56 : decode cX10_greatestPart 56 = .ok (.iadd, 1) := dz1 (k := 24) (m := 1) dzb1_cX10_greatestPart_32 di_24 (Nat.zero_lt_succ _) rfl
theorem dX10_greatestPart_57 : decode cX10_greatestPart 57 = .ok (.iastore, 1) := dz1 (k := 25) (m := 1) dzb1_cX10_greatestPart_32 di_22 (Nat.zero_lt_succ _) rfl
theorem dX10_greatestPart_58 : decode cX10_greatestPart 58 = .ok (.iload 4, 2) := dz1 (k := 26) (m := 2) dzb1_cX10_greatestPart_32 di_52 (Nat.zero_lt_succ _) rfl
theorem dX10_greatestPart_60 : decode cX10_greatestPart 60 = .ok (.aload_n 0, 1) := dz1 (k := 28) (m := 1) dzb1_cX10_greatestPart_32 di_0 (Nat.zero_lt_succ _) rfl
theorem dX10_greatestPart_61 : decode cX10_greatestPart 61 = .ok (.getfield 67, 3) := dz1 (k := 29) (m := 3) dzb1_cX10_greatestPart_32 di_466 (Nat.zero_lt_succ _) rfl
set_option maxRecDepth 100000 in
theorem dzb1_cX10_greatestPart_64 : DzLies cX10_greatestPart (.mk ⟨[0x15, 0x06, 0x2e, 0xb8, 0x01, 0x4f, 0x36, 0x04, 0x84, 0x05, 0x01, 0xa7, 0xff, 0xc3, 0x15, 0x04, 0xac]⟩) 64 := dz_lies (m := 17) (Nat.zero_lt_succ _) rfl
theorem dX10_greatestPart_64 : decode cX10_greatestPart 64 = .ok (.iload 6, 2) := dz1 (k := 0) (m := 2) dzb1_cX10_greatestPart_64 di_115 (Nat.zero_lt_succ _) rfl
theorem dX10_greatestPart_66 : decode cX10_greatestPart 66 = .ok (.iaload, 1) := dz1 (k := 2) (m := 1) dzb1_cX10_greatestPart_64 di_30 (Nat.zero_lt_succ _) rfl
theorem dX10_greatestPart_67 : decode cX10_greatestPart 67 = .ok (.invokestatic 335, 3) := dz1 (k := 3) (m := 3) dzb1_cX10_greatestPart_64 di_454 (Nat.zero_lt_succ _) rfl
theorem dX10_greatestPart_70 : decode cX10_greatestPart 70 = .ok (.istore 4, 2) := dz1 (k := 6) (m := 2) dzb1_cX10_greatestPart_64 di_51 (Nat.zero_lt_succ _) rfl
theorem dX10_greatestPart_72 : decode cX10_greatestPart 72 = .ok (.iinc 5 1, 3) := dz1 (k := 8) (m := 3) dzb1_cX10_greatestPart_64 di_131 (Nat.zero_lt_succ _) rfl
theorem dX10_greatestPart_75 : decode cX10_greatestPart 75 = .ok (.goto (-61), 3) := dz1 (k := 11) (m := 3) dzb1_cX10_greatestPart_64 di_468 (Nat.zero_lt_succ _) rfl
theorem dX10_greatestPart_78 : decode cX10_greatestPart 78 = .ok (.iload 4, 2) := dz1 (k := 14) (m := 2) dzb1_cX10_greatestPart_64 di_52 (Nat.zero_lt_succ _) rfl
theorem dX10_greatestPart_80 : decode cX10_greatestPart 80 = .ok (.ireturn, 1) := dz1 (k := 16) (m := 1) dzb1_cX10_greatestPart_64 di_13 (Nat.zero_lt_succ _) rfl
set_option maxRecDepth 100000 in
theorem dzb1_cX10_tellAhead_0 : DzLies cX10_tellAhead (.mk ⟨[0x2a, 0x1b, 0xb6, 0x00, 0x8a, 0x99, 0x00, 0x0c, 0x1c, 0x9b, 0x00, 0x08, 0x1c, 0x06, 0xa4, 0x00, 0x05, 0x02, 0xac, 0x2a, 0x1c, 0xb6, 0x00, 0xea, 0x36, 0x04, 0x2a, 0x2a, 0x1b, 0x1d, 0x03, 0x15, 0x04]⟩) 0 := dz_lies (m := 33) (Nat.zero_lt_succ _) rfl
theorem dX10_tellAhead_0 : decode cX10_tellAhead 0 = .ok (.aload_n 0, 1) := dz1 (k := 0) (m := 1) dzb1_cX10_tellAhead_0 di_0 (Nat.zero_lt_succ _) rfl
theorem dX10_tellAhead_1 : decode cX10_tellAhead 1 = .ok (.iload_n 1, 1) := dz1 (k := 1) (m := 1) dzb1_cX10_tellAhead_0 di_11 (Nat.zero_lt_succ _) rfl
theorem dX10_tellAhead_2 : decode cX10_tellAhead 2 = .ok (.invokevirtual 138, 3) := dz1 (k := 2) (m := 3) dzb1_cX10_tellAhead_0 di_271 (Nat.zero_lt_succ _) rfl
theorem dX10_tellAhead_5 : decode cX10_tellAhead 5 = .ok (.ifCond .eq 12, 3) := dz1 (k := 5) (m := 3) dzb1_cX10_tellAhead_0 di_272 (Nat.zero_lt_succ _) rfl
theorem dX10_tellAhead_8 : decode cX10_tellAhead 8 = .ok (.iload_n 2, 1) := dz1 (k := 8) (m := 1) dzb1_cX10_tellAhead_0 di_28 (Nat.zero_lt_succ _) rfl
theorem dX10_tellAhead_9 : decode cX10_tellAhead 9 = .ok (.ifCond .lt 8, 3) := dz1 (k := 9) (m := 3) dzb1_cX10_tellAhead_0 di_273 (Nat.zero_lt_succ _) rfl
theorem dX10_tellAhead_12 : decode cX10_tellAhead 12 = .ok (.iload_n 2, 1) := dz1 (k := 12) (m := 1) dzb1_cX10_tellAhead_0 di_28 (Nat.zero_lt_succ _) rfl
theorem dX10_tellAhead_13 : decode cX10_tellAhead 13 = .ok (.iconst 3, 1) := dz1 (k := 13) (m := 1) dzb1_cX10_tellAhead_0 di_4 (Nat.zero_lt_succ _) rfl
theorem dX10_tellAhead_14 : decode cX10_tellAhead 14 = .ok (.if_icmp .le 5, 3) := dz1 (k := 14) (m := 3) dzb1_cX10_tellAhead_0 di_230 (Nat.zero_lt_succ _) rfl
theorem dX10_tellAhead_17 : decode cX10_tellAhead 17 = .ok (.iconst (-1), 1) := dz1 (k := 17) (m := 1) dzb1_cX10_tellAhead_0 di_65 (Nat.zero_lt_succ _) rfl
theorem dX10_tellAhead_18 : decode cX10_tellAhead 18 = .ok (.ireturn, 1) := dz1 (k := 18) (m := 1) dzb1_cX10_tellAhead_0 di_13 (Nat.zero_lt_succ _) rfl
theorem dX10_tellAhead_19 : decode cX10_tellAhead 19 = .ok (.aload_n 0, 1) := dz1 (k := 19) (m := 1) dzb1_cX10_tellAhead_0 di_0 (Nat.zero_lt_succ _) rfl
theorem dX10_tellAhead_20 : decode cX10_tellAhead 20 = .ok (.iload_n 2, 1) := dz1 (k := 20) (m := 1) dzb1_cX10_tellAhead_0 di_28 (Nat.zero_lt_succ _) rfl
theorem dX10_tellAhead_21 : decode cX10_tellAhead 21 = .ok (.invokevirtual 234, 3) := dz1 (k := 21) (m := 3) dzb1_cX10_tellAhead_0 di_342 (Nat.zero_lt_succ _) rfl
theorem dX10_tellAhead_24 : decode cX10_tellAhead 24 = .ok (.istore 4, 2) := dz1 (k := 24) (m := 2) dzb1_cX10_tellAhead_0 di_51 (Nat.zero_lt_succ _) rfl
theorem dX10_tellAhead_26 : decode cX10_tellAhead 26 = .ok (.aload_n 0, 1) := dz1 (k := 26) (m := 1) dzb1_cX10_tellAhead_0 di_0 (Nat.zero_lt_succ _) rfl
theorem dX10_tellAhead_27 : decode cX10_tellAhead 27 = .ok (.aload_n 0, 1) := dz1 (k := 27) (m := 1) dzb1_cX10_tellAhead_0 di_0 (Nat.zero_lt_succ _) rfl
theorem dX10_tellAhead_28 : decode cX10_tellAhead 28 = .ok (.iload_n 1, 1) := dz1 (k := 28) (m := 1) dzb1_cX10_tellAhead_0 di_11 (Nat.zero_lt_succ _) rfl
theorem dX10_tellAhead_29 : decode cX10_tellAhead 29 = .ok (.iload_n 3, 1) := dz1 (k := 29) (m := 1) dzb1_cX10_tellAhead_0 di_3 (Nat.zero_lt_succ _) rfl
theorem dX10_tellAhead_30 : decode cX10_tellAhead 30 = .ok (.iconst 0, 1) := dz1 (k := 30) (m := 1) dzb1_cX10_tellAhead_0 di_8 (Nat.zero_lt_succ _) rfl
theorem dX10_tellAhead_31 : decode cX10_tellAhead 31 = .ok (.iload 4, 2) := dz1 (k := 31) (m := 2) dzb1_cX10_tellAhead_0 di_52 (Nat.zero_lt_succ _) rfl
set_option maxRecDepth 100000 in
theorem dzb1_cX10_tellAhead_32 : DzLies cX10_tellAhead (.mk ⟨[0x04, 0xb6, 0x01, 0x5c, 0x2a, 0x15, 0x04, 0xb6, 0x01, 0x60, 0xb6, 0x01, 0x64, 0x04, 0xac]⟩) 32 := dz_lies (m := 15) (Nat.zero_lt_succ _) rfl
theorem dX10_tellAhead_33 : decode cX10_tellAhead 33 = .ok (.invokevirtual 348, 3) := dz1 (k := 1) (m := 3) dzb1_cX10_tellAhead_32 di_469 (Nat.zero_lt_succ _) rfl
theorem dX10_tellAhead_36 : decode cX10_tellAhead 36 = .ok (.aload_n 0, 1) := dz1 (k := 4) (m := 1) dzb1_cX10_tellAhead_32 di_0 (Nat.zero_lt_succ _) rfl
theorem dX10_tellAhead_37 : decode cX10_tellAhead 37 = .ok (.iload 4, 2) := dz1 (k := 5) (m := 2) dzb1_cX10_tellAhead_32 di_52 (Nat.zero_lt_succ _) rfl
theorem dX10_tellAhead_39 : decode cX10_tellAhead 39 = .ok (.invokevirtual 352, 3) := dz1 (k := 7) (m := 3) dzb1_cX10_tellAhead_32 di_470 (Nat.zero_lt_succ _) rfl
theorem dX10_tellAhead_42 : decode cX10_tellAhead 42 = .ok (.invokevirtual 356, 3) := dz1 (k := 10) (m := 3) dzb1_cX10_tellAhead_32 di_471 (Nat.zero_lt_succ _) rfl
theorem dX10_tellAhead_45 : decode cX10_tellAhead 45 = .ok (.iconst 1, 1) := dz1 (k := 13) (m := 1) dzb1_cX10_tellAhead_32 di_10 (Nat.zero_lt_succ _) rfl
theorem dX10_tellAhead_46 : decode cX10_tellAhead 46 = .ok (.ireturn, 1) := dz1 (k := 14) (m := 1) dzb1_cX10_tellAhead_32 di_13 (Nat.zero_lt_succ _) rfl
set_option maxRecDepth 100000 in
theorem dzb1_cX10_orders_0 : DzLies cX10_orders (.mk ⟨[0x0a, 0x41, 0x2a, 0xb4, 0x00, 0x2d, 0xb4, 0x01, 0x06, 0xb8, 0x00, 0xe5, 0x36, 0x04, 0x03, 0x36, 0x05, 0x15, 0x05, 0x1b, 0xa2, 0x00, 0x12, 0x20, 0x15, 0x04, 0x15, 0x05, 0x64, 0x85, 0x69, 0x41]⟩) 0 := dz_lies (m := 32) (Nat.zero_lt_succ _) rfl
theorem dX10_orders_0 : decode cX10_orders 0 = .ok (.lconst 1, 1) := dz1 (k := 0) (m := 1) dzb1_cX10_orders_0 di_217 (Nat.zero_lt_succ _) rfl
theorem dX10_orders_1 : decode cX10_orders 1 = .ok (.lstore_n 2, 1) := dz1 (k := 1) (m := 1) dzb1_cX10_orders_0 di_472 (Nat.zero_lt_succ _) rfl
theorem dX10_orders_2 : decode cX10_orders 2 = .ok (.aload_n 0, 1) := dz1 (k := 2) (m := 1) dzb1_cX10_orders_0 di_0 (Nat.zero_lt_succ _) rfl
theorem dX10_orders_3 : decode cX10_orders 3 = .ok (.getfield 45, 3) := dz1 (k := 3) (m := 3) dzb1_cX10_orders_0 di_153 (Nat.zero_lt_succ _) rfl
theorem dX10_orders_6 : decode cX10_orders 6 = .ok (.getfield 262, 3) := dz1 (k := 6) (m := 3) dzb1_cX10_orders_0 di_359 (Nat.zero_lt_succ _) rfl
theorem dX10_orders_9 : decode cX10_orders 9 = .ok (.invokestatic 229, 3) := dz1 (k := 9) (m := 3) dzb1_cX10_orders_0 di_337 (Nat.zero_lt_succ _) rfl
theorem dX10_orders_12 : decode cX10_orders 12 = .ok (.istore 4, 2) := dz1 (k := 12) (m := 2) dzb1_cX10_orders_0 di_51 (Nat.zero_lt_succ _) rfl
theorem dX10_orders_14 : decode cX10_orders 14 = .ok (.iconst 0, 1) := dz1 (k := 14) (m := 1) dzb1_cX10_orders_0 di_8 (Nat.zero_lt_succ _) rfl
theorem dX10_orders_15 : decode cX10_orders 15 = .ok (.istore 5, 2) := dz1 (k := 15) (m := 2) dzb1_cX10_orders_0 di_100 (Nat.zero_lt_succ _) rfl
theorem dX10_orders_17 : decode cX10_orders 17 = .ok (.iload 5, 2) := dz1 (k := 17) (m := 2) dzb1_cX10_orders_0 di_101 (Nat.zero_lt_succ _) rfl
theorem dX10_orders_19 : decode cX10_orders 19 = .ok (.iload_n 1, 1) := dz1 (k := 19) (m := 1) dzb1_cX10_orders_0 di_11 (Nat.zero_lt_succ _) rfl
theorem dX10_orders_20 : decode cX10_orders 20 = .ok (.if_icmp .ge 18, 3) := dz1 (k := 20) (m := 3) dzb1_cX10_orders_0 di_473 (Nat.zero_lt_succ _) rfl
theorem dX10_orders_23 : decode cX10_orders 23 = .ok (.lload_n 2, 1) := dz1 (k := 23) (m := 1) dzb1_cX10_orders_0 di_474 (Nat.zero_lt_succ _) rfl
theorem dX10_orders_24 : decode cX10_orders 24 = .ok (.iload 4, 2) := dz1 (k := 24) (m := 2) dzb1_cX10_orders_0 di_52 (Nat.zero_lt_succ _) rfl
theorem dX10_orders_26 : decode cX10_orders 26 = .ok (.iload 5, 2) := dz1 (k := 26) (m := 2) dzb1_cX10_orders_0 di_101 (Nat.zero_lt_succ _) rfl
theorem dX10_orders_28 : decode cX10_orders 28 = .ok (.isub, 1) := dz1 (k := 28) (m := 1) dzb1_cX10_orders_0 di_14 (Nat.zero_lt_succ _) rfl
theorem dX10_orders_29 : decode cX10_orders 29 = .ok (.i2l, 1) := dz1 (k := 29) (m := 1) dzb1_cX10_orders_0 di_250 (Nat.zero_lt_succ _) rfl
theorem dX10_orders_30 : decode cX10_orders 30 = .ok (.lmul, 1) := dz1 (k := 30) (m := 1) dzb1_cX10_orders_0 di_380 (Nat.zero_lt_succ _) rfl
theorem dX10_orders_31 : decode cX10_orders 31 = .ok (.lstore_n 2, 1) := dz1 (k := 31) (m := 1) dzb1_cX10_orders_0 di_472 (Nat.zero_lt_succ _) rfl
set_option maxRecDepth 100000 in
theorem dzb1_cX10_orders_32 : DzLies cX10_orders (.mk ⟨[0x84, 0x05, 0x01, 0xa7, 0xff, 0xee, 0x20, 0xad]⟩) 32 := dz_lies (m := 8) (Nat.zero_lt_succ _) rfl
theorem dX10_orders_32 : decode cX10_orders 32 = .ok (.iinc 5 1, 3) := dz1 (k := 0) (m := 3) dzb1_cX10_orders_32 di_131 (Nat.zero_lt_succ _) rfl
theorem dX10_orders_35 : decode cX10_orders 35 = .ok (.goto (-18), 3) := dz1 (k := 3) (m := 3) dzb1_cX10_orders_32 di_268 (Nat.zero_lt_succ _) rfl
theorem dX10_orders_38 : decode cX10_orders 38 = .ok (.lload_n 2, 1) := dz1 (k := 6) (m := 1) dzb1_cX10_orders_32 di_474 (Nat.zero_lt_succ _) rfl
theorem dX10_orders_39 : decode cX10_orders 39 = .ok (.lreturn, 1) := dz1 (k := 7) (m := 1) dzb1_cX10_orders_32 di_385 (Nat.zero_lt_succ _) rfl
set_option maxRecDepth 100000 in
theorem dzb1_cX10_sumAhead_0 : DzLies cX10_sumAhead (.mk ⟨[0x2a, 0xb4, 0x00, 0x3c, 0x1d, 0x32, 0x3a, 0x05, 0x1d, 0x15, 0x04, 0xa2, 0x00, 0x08, 0x1d, 0x07, 0xa1, 0x00, 0x20, 0x1c, 0x99, 0x00, 0x10, 0x19, 0x05, 0xb4, 0x00, 0xdf, 0x1b, 0x7a, 0x04, 0x7e]⟩) 0 := dz_lies (m := 32) (Nat.zero_lt_succ _) rfl
theorem dX10_sumAhead_0 : decode cX10_sumAhead 0 = .ok (.aload_n 0, 1) := dz1 (k := 0) (m := 1) dzb1_cX10_sumAhead_0 di_0 (Nat.zero_lt_succ _) rfl
theorem dX10_sumAhead_1 : decode cX10_sumAhead 1 = .ok (.getfield 60, 3) := dz1 (k := 1) (m := 3) dzb1_cX10_sumAhead_0 di_227 (Nat.zero_lt_succ _) rfl
theorem dX10_sumAhead_4 : decode cX10_sumAhead 4 = .ok (.iload_n 3, 1) := dz1 (k := 4) (m := 1) dzb1_cX10_sumAhead_0 di_3 (Nat.zero_lt_succ _) rfl
theorem dX10_sumAhead_5 : decode cX10_sumAhead 5 = .ok (.aaload, 1) := dz1 (k := 5) (m := 1) dzb1_cX10_sumAhead_0 di_130 (Nat.zero_lt_succ _) rfl
theorem dX10_sumAhead_6 : decode cX10_sumAhead 6 = .ok (.astore 5, 2) := dz1 (k := 6) (m := 2) dzb1_cX10_sumAhead_0 di_56 (Nat.zero_lt_succ _) rfl
theorem dX10_sumAhead_8 : decode cX10_sumAhead 8 = .ok (.iload_n 3, 1) := dz1 (k := 8) (m := 1) dzb1_cX10_sumAhead_0 di_3 (Nat.zero_lt_succ _) rfl
theorem dX10_sumAhead_9 : decode cX10_sumAhead 9 = .ok (.iload 4, 2) := dz1 (k := 9) (m := 2) dzb1_cX10_sumAhead_0 di_52 (Nat.zero_lt_succ _) rfl
theorem dX10_sumAhead_11 : decode cX10_sumAhead 11 = .ok (.if_icmp .ge 8, 3) := dz1 (k := 11) (m := 3) dzb1_cX10_sumAhead_0 di_436 (Nat.zero_lt_succ _) rfl
theorem dX10_sumAhead_14 : decode cX10_sumAhead 14 = .ok (.iload_n 3, 1) := dz1 (k := 14) (m := 1) dzb1_cX10_sumAhead_0 di_3 (Nat.zero_lt_succ _) rfl
theorem dX10_sumAhead_15 : decode cX10_sumAhead 15 = .ok (.iconst 4, 1) := dz1 (k := 15) (m := 1) dzb1_cX10_sumAhead_0 di_33 (Nat.zero_lt_succ _) rfl
theorem dX10_sumAhead_16 : decode cX10_sumAhead 16 = .ok (.if_icmp .lt 32, 3) := dz1 (k := 16) (m := 3) dzb1_cX10_sumAhead_0 di_475 (Nat.zero_lt_succ _) rfl
theorem dX10_sumAhead_19 : decode cX10_sumAhead 19 = .ok (.iload_n 2, 1) := dz1 (k := 19) (m := 1) dzb1_cX10_sumAhead_0 di_28 (Nat.zero_lt_succ _) rfl
theorem dX10_sumAhead_20 : decode cX10_sumAhead 20 = .ok (.ifCond .eq 16, 3) := dz1 (k := 20) (m := 3) dzb1_cX10_sumAhead_0 di_476 (Nat.zero_lt_succ _) rfl
theorem dX10_sumAhead_23 : decode cX10_sumAhead 23 = .ok (.aload 5, 2) := dz1 (k := 23) (m := 2) dzb1_cX10_sumAhead_0 di_57 (Nat.zero_lt_succ _) rfl
theorem dX10_sumAhead_25 : decode cX10_sumAhead 25 = .ok (.getfield 223, 3) := dz1 (k := 25) (m := 3) dzb1_cX10_sumAhead_0 di_333 (Nat.zero_lt_succ _) rfl
theorem dX10_sumAhead_28 : decode cX10_sumAhead 28 = .ok (.iload_n 1, 1) := dz1 (k := 28) (m := 1) dzb1_cX10_sumAhead_0 di_11 (Nat.zero_lt_succ _) rfl
theorem dX10_sumAhead_29 : decode cX10_sumAhead 29 = .ok (.ishr, 1) := dz1 (k := 29) (m := 1) dzb1_cX10_sumAhead_0 di_47 (Nat.zero_lt_succ _) rfl
theorem dX10_sumAhead_30 : decode cX10_sumAhead 30 = .ok (.iconst 1, 1) := dz1 (k := 30) (m := 1) dzb1_cX10_sumAhead_0 di_10 (Nat.zero_lt_succ _) rfl
theorem dX10_sumAhead_31 : decode cX10_sumAhead 31 = .ok (.iand, 1) := dz1 (k := 31) (m := 1) dzb1_cX10_sumAhead_0 di_48 (Nat.zero_lt_succ _) rfl
set_option maxRecDepth 100000 in
theorem dzb1_cX10_sumAhead_32 : DzLies cX10_sumAhead (.mk ⟨[0x85, 0xa7, 0x00, 0x0e, 0x19, 0x05, 0xb4, 0x00, 0x9c, 0x1b, 0x2e, 0xb8, 0x00, 0xe5, 0x85, 0xad, 0x09, 0x37, 0x06, 0x04, 0x36, 0x08, 0x15, 0x08, 0x10, 0x0c, 0xa3, 0x00, 0x2e, 0x19, 0x05, 0x15, 0x08]⟩) 32 := dz_lies (m := 33) (Nat.zero_lt_succ _) rfl
theorem dX10_sumAhead_32 : decode cX10_sumAhead 32 = .ok (.i2l, 1) := dz1 (k := 0) (m := 1) dzb1_cX10_sumAhead_32 di_250 (Nat.zero_lt_succ _) rfl
theorem dX10_sumAhead_33 : decode cX10_sumAhead 33 = .ok (.goto 14, 3) := dz1 (k := 1) (m := 3) dzb1_cX10_sumAhead_32 di_477 (Nat.zero_lt_succ _) rfl
theorem dX10_sumAhead_36 : decode cX10_sumAhead 36 = .ok (.aload 5, 2) := dz1 (k := 4) (m := 2) dzb1_cX10_sumAhead_32 di_57 (Nat.zero_lt_succ _) rfl
theorem dX10_sumAhead_38 : decode cX10_sumAhead 38 = .ok (.getfield 156, 3) := dz1 (k := 6) (m := 3) dzb1_cX10_sumAhead_32 di_288 (Nat.zero_lt_succ _) rfl
theorem dX10_sumAhead_41 : decode cX10_sumAhead 41 = .ok (.iload_n 1, 1) := dz1 (k := 9) (m := 1) dzb1_cX10_sumAhead_32 di_11 (Nat.zero_lt_succ _) rfl
theorem dX10_sumAhead_42 : decode cX10_sumAhead 42 = .ok (.iaload, 1) := dz1 (k := 10) (m := 1) dzb1_cX10_sumAhead_32 di_30 (Nat.zero_lt_succ _) rfl
theorem dX10_sumAhead_43 : decode cX10_sumAhead 43 = .ok (.invokestatic 229, 3) := dz1 (k := 11) (m := 3) dzb1_cX10_sumAhead_32 di_337 (Nat.zero_lt_succ _) rfl
theorem dX10_sumAhead_46 : decode cX10_sumAhead 46 = .ok (.i2l, 1) := dz1 (k := 14) (m := 1) dzb1_cX10_sumAhead_32 di_250 (Nat.zero_lt_succ _) rfl
theorem dX10_sumAhead_47 : decode cX10_sumAhead 47 = .ok (.lreturn, 1) := dz1 (k := 15) (m := 1) dzb1_cX10_sumAhead_32 di_385 (Nat.zero_lt_succ _) rfl
theorem dX10_sumAhead_48 : decode cX10_sumAhead 48 = .ok (.lconst 0, 1) := dz1 (k := 16) (m := 1) dzb1_cX10_sumAhead_32 di_246 (Nat.zero_lt_succ _) rfl
theorem dX10_sumAhead_49 : decode cX10_sumAhead 49 = .ok (.lstore 6, 2) := dz1 (k := 17) (m := 2) dzb1_cX10_sumAhead_32 di_478 (Nat.zero_lt_succ _) rfl
theorem dX10_sumAhead_51 : decode cX10_sumAhead 51 = .ok (.iconst 1, 1) := dz1 (k := 19) (m := 1) dzb1_cX10_sumAhead_32 di_10 (Nat.zero_lt_succ _) rfl
theorem dX10_sumAhead_52 : decode cX10_sumAhead 52 = .ok (.istore 8, 2) := dz1 (k := 20) (m := 2) dzb1_cX10_sumAhead_32 di_363 (Nat.zero_lt_succ _) rfl
theorem dX10_sumAhead_54 : decode cX10_sumAhead 54 = .ok (.iload 8, 2) := dz1 (k := 22) (m := 2) dzb1_cX10_sumAhead_32 di_364 (Nat.zero_lt_succ _) rfl
theorem dX10_sumAhead_56 : decode cX10_sumAhead 56 = .ok (.bipush 12, 2) := dz1 (k := 24) (m := 2) dzb1_cX10_sumAhead_32 di_126 (Nat.zero_lt_succ _) rfl
theorem dX10_sumAhead_58 : decode cX10_sumAhead 58 = .ok (.if_icmp .gt 46, 3) := dz1 (k := 26) (m := 3) dzb1_cX10_sumAhead_32 di_479 (Nat.zero_lt_succ _) rfl
theorem dX10_sumAhead_61 : decode cX10_sumAhead 61 = .ok (.aload 5, 2) := dz1 (k := 29) (m := 2) dzb1_cX10_sumAhead_32 di_57 (Nat.zero_lt_succ _) rfl
theorem dX10_sumAhead_63 : decode cX10_sumAhead 63 = .ok (.iload 8, 2) := dz1 (k := 31) (m := 2) dzb1_cX10_sumAhead_32 di_364 (Nat.zero_lt_succ _) rfl
set_option maxRecDepth 100000 in
theorem dzb1_cX10_sumAhead_64 : DzLies cX10_sumAhead (.mk ⟨[0x08, 0xb6, 0x00, 0xbf, 0x99, 0x00, 0x1e, 0x2a, 0x1d, 0x15, 0x08, 0x04, 0x1b, 0x78, 0xb6, 0x00, 0xe2, 0x57, 0x16, 0x06, 0x2a, 0x1b, 0x1c, 0x1d, 0x04, 0x60, 0x15, 0x04, 0xb6, 0x01, 0x5c, 0x61]⟩) 64 := dz_lies (m := 32) (Nat.zero_lt_succ _) rfl
theorem dX10_sumAhead_65 : decode cX10_sumAhead 65 = .ok (.invokevirtual 191, 3) := dz1 (k := 1) (m := 3) dzb1_cX10_sumAhead_64 di_307 (Nat.zero_lt_succ _) rfl
theorem dX10_sumAhead_68 : decode cX10_sumAhead 68 = .ok (.ifCond .eq 30, 3) := dz1 (k := 4) (m := 3) dzb1_cX10_sumAhead_64 di_353 (Nat.zero_lt_succ _) rfl
theorem dX10_sumAhead_71 : decode cX10_sumAhead 71 = .ok (.aload_n 0, 1) := dz1 (k := 7) (m := 1) dzb1_cX10_sumAhead_64 di_0 (Nat.zero_lt_succ _) rfl
theorem dX10_sumAhead_72 : decode cX10_sumAhead 72 = .ok (.iload_n 3, 1) := dz1 (k := 8) (m := 1) dzb1_cX10_sumAhead_64 di_3 (Nat.zero_lt_succ _) rfl
theorem dX10_sumAhead_73 : decode cX10_sumAhead 73 = .ok (.iload 8, 2) := dz1 (k := 9) (m := 2) dzb1_cX10_sumAhead_64 di_364 (Nat.zero_lt_succ _) rfl
theorem dX10_sumAhead_75 : decode cX10_sumAhead 75 = .ok (.iconst 1, 1) := dz1 (k := 11) (m := 1) dzb1_cX10_sumAhead_64 di_10 (Nat.zero_lt_succ _) rfl
theorem dX10_sumAhead_76 : decode cX10_sumAhead 76 = .ok (.iload_n 1, 1) := dz1 (k := 12) (m := 1) dzb1_cX10_sumAhead_64 di_11 (Nat.zero_lt_succ _) rfl
theorem dX10_sumAhead_77 : decode cX10_sumAhead 77 = .ok (.ishl, 1) := dz1 (k := 13) (m := 1) dzb1_cX10_sumAhead_64 di_12 (Nat.zero_lt_succ _) rfl
theorem dX10_sumAhead_78 : decode cX10_sumAhead 78 = .ok (.invokevirtual 226, 3) := dz1 (k := 14) (m := 3) dzb1_cX10_sumAhead_64 di_336 (Nat.zero_lt_succ _) rfl
theorem dX10_sumAhead_81 : decode cX10_sumAhead 81 = .ok (.pop, 1) := dz1 (k := 17) (m := 1) dzb1_cX10_sumAhead_64 di_331 (Nat.zero_lt_succ _) rfl
theorem dX10_sumAhead_82 : decode cX10_sumAhead 82 = .ok (.lload 6, 2) := dz1 (k := 18) (m := 2) dzb1_cX10_sumAhead_64 di_480 (Nat.zero_lt_succ _) rfl
theorem dX10_sumAhead_84 : decode cX10_sumAhead 84 = .ok (.aload_n 0, 1) := dz1 (k := 20) (m := 1) dzb1_cX10_sumAhead_64 di_0 (Nat.zero_lt_succ _) rfl
theorem dX10_sumAhead_85 : decode cX10_sumAhead 85 = .ok (.iload_n 1, 1) := dz1 (k := 21) (m := 1) dzb1_cX10_sumAhead_64 di_11 (Nat.zero_lt_succ _) rfl
theorem dX10_sumAhead_86 : decode cX10_sumAhead 86 = .ok (.iload_n 2, 1) := dz1 (k := 22) (m := 1) dzb1_cX10_sumAhead_64 di_28 (Nat.zero_lt_succ _) rfl
theorem dX10_sumAhead_87 : decode cX10_sumAhead 87 = .ok (.iload_n 3, 1) := dz1 (k := 23) (m := 1) dzb1_cX10_sumAhead_64 di_3 (Nat.zero_lt_succ _) rfl
theorem dX10_sumAhead_88 : decode cX10_sumAhead 88 = .ok (.iconst 1, 1) := dz1 (k := 24) (m := 1) dzb1_cX10_sumAhead_64 di_10 (Nat.zero_lt_succ _) rfl
theorem dX10_sumAhead_89 : decode cX10_sumAhead 89 = .ok (.iadd, 1) := dz1 (k := 25) (m := 1) dzb1_cX10_sumAhead_64 di_24 (Nat.zero_lt_succ _) rfl
theorem dX10_sumAhead_90 : decode cX10_sumAhead 90 = .ok (.iload 4, 2) := dz1 (k := 26) (m := 2) dzb1_cX10_sumAhead_64 di_52 (Nat.zero_lt_succ _) rfl
theorem dX10_sumAhead_92 : decode cX10_sumAhead 92 = .ok (.invokevirtual 348, 3) := dz1 (k := 28) (m := 3) dzb1_cX10_sumAhead_64 di_469 (Nat.zero_lt_succ _) rfl
theorem dX10_sumAhead_95 : decode cX10_sumAhead 95 = .ok (.ladd, 1) := dz1 (k := 31) (m := 1) dzb1_cX10_sumAhead_64 di_251 (Nat.zero_lt_succ _) rfl
set_option maxRecDepth 100000 in
theorem dzb1_cX10_sumAhead_96 : DzLies cX10_sumAhead (.mk ⟨[0x37, 0x06, 0x84, 0x08, 0x01, 0xa7, 0xff, 0xd1, 0x16, 0x06, 0xad]⟩) 96 := dz_lies (m := 11) (Nat.zero_lt_succ _) rfl
theorem dX10_sumAhead_96 : decode cX10_sumAhead 96 = .ok (.lstore 6, 2) := dz1 (k := 0) (m := 2) dzb1_cX10_sumAhead_96 di_478 (Nat.zero_lt_succ _) rfl
theorem dX10_sumAhead_98 : decode cX10_sumAhead 98 = .ok (.iinc 8 1, 3) := dz1 (k := 2) (m := 3) dzb1_cX10_sumAhead_96 di_456 (Nat.zero_lt_succ _) rfl
theorem dX10_sumAhead_101 : decode cX10_sumAhead 101 = .ok (.goto (-47), 3) := dz1 (k := 5) (m := 3) dzb1_cX10_sumAhead_96 di_481 (Nat.zero_lt_succ _) rfl
theorem dX10_sumAhead_104 : decode cX10_sumAhead 104 = .ok (.lload 6, 2) := dz1 (k := 8) (m := 2) dzb1_cX10_sumAhead_96 di_480 (Nat.zero_lt_succ _) rfl
theorem dX10_sumAhead_106 : decode cX10_sumAhead 106 = .ok (.lreturn, 1) := dz1 (k := 10) (m := 1) dzb1_cX10_sumAhead_96 di_385 (Nat.zero_lt_succ _) rfl
set_option maxRecDepth 100000 in
theorem dzb1_cX10_tell_0 : DzLies cX10_tell (.mk ⟨[0x1f, 0x21, 0xb8, 0x01, 0x68, 0x37, 0x05, 0x16, 0x05, 0x09, 0x94, 0x9e, 0x00, 0x13, 0x2a, 0x1f, 0x16, 0x05, 0x6d, 0xb5, 0x01, 0x1c, 0x2a, 0x21, 0x16, 0x05, 0x6d, 0xb5, 0x00, 0x46, 0xb1]⟩) 0 := dz_lies (m := 31) (Nat.zero_lt_succ _) rfl
theorem dX10_tell_0 : decode cX10_tell 0 = .ok (.lload_n 1, 1) := dz1 (k := 0) (m := 1) dzb1_cX10_tell_0 di_399 (Nat.zero_lt_succ _) rfl
theorem dX10_tell_1 : decode cX10_tell 1 = .ok (.lload_n 3, 1) := dz1 (k := 1) (m := 1) dzb1_cX10_tell_0 di_482 (Nat.zero_lt_succ _) rfl
theorem dX10_tell_2 : decode cX10_tell 2 = .ok (.invokestatic 360, 3) := dz1 (k := 2) (m := 3) dzb1_cX10_tell_0 di_483 (Nat.zero_lt_succ _) rfl
theorem dX10_tell_5 : decode cX10_tell 5 = .ok (.lstore 5, 2) := dz1 (k := 5) (m := 2) dzb1_cX10_tell_0 di_484 (Nat.zero_lt_succ _) rfl
theorem dX10_tell_7 : decode cX10_tell 7 = .ok (.lload 5, 2) := dz1 (k := 7) (m := 2) dzb1_cX10_tell_0 di_485 (Nat.zero_lt_succ _) rfl
theorem dX10_tell_9 : decode cX10_tell 9 = .ok (.lconst 0, 1) := dz1 (k := 9) (m := 1) dzb1_cX10_tell_0 di_246 (Nat.zero_lt_succ _) rfl
theorem dX10_tell_10 : decode cX10_tell 10 = .ok (.lcmp, 1) := dz1 (k := 10) (m := 1) dzb1_cX10_tell_0 di_376 (Nat.zero_lt_succ _) rfl
theorem dX10_tell_11 : decode cX10_tell 11 = .ok (.ifCond .le 19, 3) := dz1 (k := 11) (m := 3) dzb1_cX10_tell_0 di_486 (Nat.zero_lt_succ _) rfl
theorem dX10_tell_14 : decode cX10_tell 14 = .ok (.aload_n 0, 1) := dz1 (k := 14) (m := 1) dzb1_cX10_tell_0 di_0 (Nat.zero_lt_succ _) rfl
theorem dX10_tell_15 : decode cX10_tell 15 = .ok (.lload_n 1, 1) := dz1 (k := 15) (m := 1) dzb1_cX10_tell_0 di_399 (Nat.zero_lt_succ _) rfl
theorem dX10_tell_16 : decode cX10_tell 16 = .ok (.lload 5, 2) := dz1 (k := 16) (m := 2) dzb1_cX10_tell_0 di_485 (Nat.zero_lt_succ _) rfl
theorem dX10_tell_18 : decode cX10_tell 18 = .ok (.ldiv, 1) := dz1 (k := 18) (m := 1) dzb1_cX10_tell_0 di_254 (Nat.zero_lt_succ _) rfl
theorem dX10_tell_19 : decode cX10_tell 19 = .ok (.putfield 284, 3) := dz1 (k := 19) (m := 3) dzb1_cX10_tell_0 di_487 (Nat.zero_lt_succ _) rfl
theorem dX10_tell_22 : decode cX10_tell 22 = .ok (.aload_n 0, 1) := dz1 (k := 22) (m := 1) dzb1_cX10_tell_0 di_0 (Nat.zero_lt_succ _) rfl
theorem dX10_tell_23 : decode cX10_tell 23 = .ok (.lload_n 3, 1) := dz1 (k := 23) (m := 1) dzb1_cX10_tell_0 di_482 (Nat.zero_lt_succ _) rfl
theorem dX10_tell_24 : decode cX10_tell 24 = .ok (.lload 5, 2) := dz1 (k := 24) (m := 2) dzb1_cX10_tell_0 di_485 (Nat.zero_lt_succ _) rfl
theorem dX10_tell_26 : decode cX10_tell 26 = .ok (.ldiv, 1) := dz1 (k := 26) (m := 1) dzb1_cX10_tell_0 di_254 (Nat.zero_lt_succ _) rfl
theorem dX10_tell_27 : decode cX10_tell 27 = .ok (.putfield 70, 3) := dz1 (k := 27) (m := 3) dzb1_cX10_tell_0 di_218 (Nat.zero_lt_succ _) rfl
theorem dX10_tell_30 : decode cX10_tell 30 = .ok (.return_, 1) := dz1 (k := 30) (m := 1) dzb1_cX10_tell_0 di_2 (Nat.zero_lt_succ _) rfl
set_option maxRecDepth 100000 in
theorem dzb1_cX10_commonDivisor_0 : DzLies cX10_commonDivisor (.mk ⟨[0x1e, 0x37, 0x04, 0x20, 0x37, 0x06, 0x03, 0x36, 0x08, 0x15, 0x08, 0x10, 0x64, 0xa2, 0x00, 0x1f, 0x16, 0x06, 0x09, 0x94, 0x99, 0x00, 0x18, 0x16, 0x04, 0x16, 0x06, 0x71, 0x37, 0x09, 0x16, 0x06]⟩) 0 := dz_lies (m := 32) (Nat.zero_lt_succ _) rfl
theorem dX10_commonDivisor_0 : decode cX10_commonDivisor 0 = .ok (.lload_n 0, 1) := dz1 (k := 0) (m := 1) dzb1_cX10_commonDivisor_0 di_488 (Nat.zero_lt_succ _) rfl
theorem dX10_commonDivisor_1 : decode cX10_commonDivisor 1 = .ok (.lstore 4, 2) := dz1 (k := 1) (m := 2) dzb1_cX10_commonDivisor_0 di_247 (Nat.zero_lt_succ _) rfl
theorem dX10_commonDivisor_3 : decode cX10_commonDivisor 3 = .ok (.lload_n 2, 1) := dz1 (k := 3) (m := 1) dzb1_cX10_commonDivisor_0 di_474 (Nat.zero_lt_succ _) rfl
theorem dX10_commonDivisor_4 : decode cX10_commonDivisor 4 = .ok (.lstore 6, 2) := dz1 (k := 4) (m := 2) dzb1_cX10_commonDivisor_0 di_478 (Nat.zero_lt_succ _) rfl
theorem dX10_commonDivisor_6 : decode cX10_commonDivisor 6 = .ok (.iconst 0, 1) := dz1 (k := 6) (m := 1) dzb1_cX10_commonDivisor_0 di_8 (Nat.zero_lt_succ _) rfl
theorem dX10_commonDivisor_7 : decode cX10_commonDivisor 7 = .ok (.istore 8, 2) := dz1 (k := 7) (m := 2) dzb1_cX10_commonDivisor_0 di_363 (Nat.zero_lt_succ _) rfl
theorem dX10_commonDivisor_9 : decode cX10_commonDivisor 9 = .ok (.iload 8, 2) := dz1 (k := 9) (m := 2) dzb1_cX10_commonDivisor_0 di_364 (Nat.zero_lt_succ _) rfl
theorem dX10_commonDivisor_11 : decode cX10_commonDivisor 11 = .ok (.bipush 100, 2) := dz1 (k := 11) (m := 2) dzb1_cX10_commonDivisor_0 di_450 (Nat.zero_lt_succ _) rfl
theorem dX10_commonDivisor_13 : decode cX10_commonDivisor 13 = .ok (.if_icmp .ge 31, 3) := dz1 (k := 13) (m := 3) dzb1_cX10_commonDivisor_0 di_325 (Nat.zero_lt_succ _) rfl
theorem dX10_commonDivisor_16 : decode cX10_commonDivisor 16 = .ok (.lload 6, 2) := dz1 (k := 16) (m := 2) dzb1_cX10_commonDivisor_0 di_480 (Nat.zero_lt_succ _) rfl
theorem dX10_commonDivisor_18 : decode cX10_commonDivisor 18 = .ok (.lconst 0, 1) := dz1 (k := 18) (m := 1) dzb1_cX10_commonDivisor_0 di_246 (Nat.zero_lt_succ _) rfl
theorem dX10_commonDivisor_19 : decode cX10_commonDivisor 19 = .ok (.lcmp, 1) := dz1 (k := 19) (m := 1) dzb1_cX10_commonDivisor_0 di_376 (Nat.zero_lt_succ _) rfl
theorem dX10_commonDivisor_20 : decode cX10_commonDivisor 20 = .ok (.ifCond .eq 24, 3) := dz1 (k := 20) (m := 3) dzb1_cX10_commonDivisor_0 di_284 (Nat.zero_lt_succ _) rfl
theorem dX10_commonDivisor_23 : decode cX10_commonDivisor 23 = .ok (.lload 4, 2) := dz1 (k := 23) (m := 2) dzb1_cX10_commonDivisor_0 di_249 (Nat.zero_lt_succ _) rfl
theorem dX10_commonDivisor_25 : decode cX10_commonDivisor 25 = .ok (.lload 6, 2) := dz1 (k := 25) (m := 2) dzb1_cX10_commonDivisor_0 di_480 (Nat.zero_lt_succ _) rfl
theorem dX10_commonDivisor_27 : decode cX10_commonDivisor 27 = .ok (.lrem, 1) := dz1 (k := 27) (m := 1) dzb1_cX10_commonDivisor_0 di_381 (Nat.zero_lt_succ _) rfl
theorem dX10_commonDivisor_28 : decode cX10_commonDivisor 28 = .ok (.lstore 9, 2) := dz1 (k := 28) (m := 2) dzb1_cX10_commonDivisor_0 di_489 (Nat.zero_lt_succ _) rfl
theorem dX10_commonDivisor_30 : decode cX10_commonDivisor 30 = .ok (.lload 6, 2) := dz1 (k := 30) (m := 2) dzb1_cX10_commonDivisor_0 di_480 (Nat.zero_lt_succ _) rfl
set_option maxRecDepth 100000 in
theorem dzb1_cX10_commonDivisor_32 : DzLies cX10_commonDivisor (.mk ⟨[0x37, 0x04, 0x16, 0x09, 0x37, 0x06, 0x84, 0x08, 0x01, 0xa7, 0xff, 0xe0, 0x16, 0x04, 0xad]⟩) 32 := dz_lies (m := 15) (Nat.zero_lt_succ _) rfl
theorem dX10_commonDivisor_32 : decode cX10_commonDivisor 32 = .ok (.lstore 4, 2) := dz1 (k := 0) (m := 2) dzb1_cX10_commonDivisor_32 di_247 (Nat.zero_lt_succ _) rfl
theorem dX10_commonDivisor_34 : decode cX10_commonDivisor 34 = .ok (.lload 9, 2) := dz1 (k := 2) (m := 2) dzb1_cX10_commonDivisor_32 di_490 (Nat.zero_lt_succ _) rfl
theorem dX10_commonDivisor_36 : decode cX10_commonDivisor 36 = .ok (.lstore 6, 2) := dz1 (k := 4) (m := 2) dzb1_cX10_commonDivisor_32 di_478 (Nat.zero_lt_succ _) rfl
theorem dX10_commonDivisor_38 : decode cX10_commonDivisor 38 = .ok (.iinc 8 1, 3) := dz1 (k := 6) (m := 3) dzb1_cX10_commonDivisor_32 di_456 (Nat.zero_lt_succ _) rfl
theorem dX10_commonDivisor_41 : decode cX10_commonDivisor 41 = .ok (.goto (-32), 3) := dz1 (k := 9) (m := 3) dzb1_cX10_commonDivisor_32 di_491 (Nat.zero_lt_succ _) rfl
theorem dX10_commonDivisor_44 : decode cX10_commonDivisor 44 = .ok (.lload 4, 2) := dz1 (k := 12) (m := 2) dzb1_cX10_commonDivisor_32 di_249 (Nat.zero_lt_succ _) rfl
theorem dX10_commonDivisor_46 : decode cX10_commonDivisor 46 = .ok (.lreturn, 1) := dz1 (k := 14) (m := 1) dzb1_cX10_commonDivisor_32 di_385 (Nat.zero_lt_succ _) rfl
set_option maxRecDepth 100000 in
theorem dzb1_cX10_thoseThere_0 : DzLies cX10_thoseThere (.mk ⟨[0x03, 0x3c, 0x2a, 0x4d, 0x2c, 0xbe, 0x3e, 0x03, 0x36, 0x04, 0x15, 0x04, 0x1d, 0xa2, 0x00, 0x17, 0x2c, 0x15, 0x04, 0x2e, 0x36, 0x05, 0x15, 0x05, 0x9b, 0x00, 0x06, 0x84, 0x01, 0x01, 0x84, 0x04, 0x01]⟩) 0 := dz_lies (m := 33) (Nat.zero_lt_succ _) rfl
theorem dX10_thoseThere_0 : decode cX10_thoseThere 0 = .ok (.iconst 0, 1) := dz1 (k := 0) (m := 1) dzb1_cX10_thoseThere_0 di_8 (Nat.zero_lt_succ _) rfl
theorem dX10_thoseThere_1 : decode cX10_thoseThere 1 = .ok (.istore_n 1, 1) := dz1 (k := 1) (m := 1) dzb1_cX10_thoseThere_0 di_68 (Nat.zero_lt_succ _) rfl
theorem dX10_thoseThere_2 : decode cX10_thoseThere 2 = .ok (.aload_n 0, 1) := dz1 (k := 2) (m := 1) dzb1_cX10_thoseThere_0 di_0 (Nat.zero_lt_succ _) rfl
theorem dX10_thoseThere_3 : decode cX10_thoseThere 3 = .ok (.astore_n 2, 1) := dz1 (k := 3) (m := 1) dzb1_cX10_thoseThere_0 di_492 (Nat.zero_lt_succ _) rfl
theorem dX10_thoseThere_4 : decode cX10_thoseThere 4 = .ok (.aload_n 2, 1) := dz1 (k := 4) (m := 1) dzb1_cX10_thoseThere_0 di_493 (Nat.zero_lt_succ _) rfl
theorem dX10_thoseThere_5 : decode cX10_thoseThere 5 = .ok (.arraylength, 1) := dz1 (k := 5) (m := 1) dzb1_cX10_thoseThere_0 di_188 (Nat.zero_lt_succ _) rfl
theorem dX10_thoseThere_6 : decode cX10_thoseThere 6 = .ok (.istore_n 3, 1) := dz1 (k := 6) (m := 1) dzb1_cX10_thoseThere_0 di_50 (Nat.zero_lt_succ _) rfl
theorem dX10_thoseThere_7 : decode cX10_thoseThere 7 = .ok (.iconst 0, 1) := dz1 (k := 7) (m := 1) dzb1_cX10_thoseThere_0 di_8 (Nat.zero_lt_succ _) rfl
theorem dX10_thoseThere_8 : decode cX10_thoseThere 8 = .ok (.istore 4, 2) := dz1 (k := 8) (m := 2) dzb1_cX10_thoseThere_0 di_51 (Nat.zero_lt_succ _) rfl
theorem dX10_thoseThere_10 : decode cX10_thoseThere 10 = .ok (.iload 4, 2) := dz1 (k := 10) (m := 2) dzb1_cX10_thoseThere_0 di_52 (Nat.zero_lt_succ _) rfl
theorem dX10_thoseThere_12 : decode cX10_thoseThere 12 = .ok (.iload_n 3, 1) := dz1 (k := 12) (m := 1) dzb1_cX10_thoseThere_0 di_3 (Nat.zero_lt_succ _) rfl
theorem dX10_thoseThere_13 : decode cX10_thoseThere 13 = .ok (.if_icmp .ge 23, 3) := dz1 (k := 13) (m := 3) dzb1_cX10_thoseThere_0 di_20 (Nat.zero_lt_succ _) rfl
theorem dX10_thoseThere_16 : decode cX10_thoseThere 16 = .ok (.aload_n 2, 1) := dz1 (k := 16) (m := 1) dzb1_cX10_thoseThere_0 di_493 (Nat.zero_lt_succ _) rfl
theorem dX10_thoseThere_17 : decode cX10_thoseThere 17 = .ok (.iload 4, 2) := dz1 (k := 17) (m := 2) dzb1_cX10_thoseThere_0 di_52 (Nat.zero_lt_succ _) rfl
theorem dX10_thoseThere_19 : decode cX10_thoseThere 19 = .ok (.iaload, 1) := dz1 (k := 19) (m := 1) dzb1_cX10_thoseThere_0 di_30 (Nat.zero_lt_succ _) rfl
theorem dX10_thoseThere_20 : decode cX10_thoseThere 20 = .ok (.istore 5, 2) := dz1 (k := 20) (m := 2) dzb1_cX10_thoseThere_0 di_100 (Nat.zero_lt_succ _) rfl
theorem dX10_thoseThere_22 : decode cX10_thoseThere 22 = .ok (.iload 5, 2) := dz1 (k := 22) (m := 2) dzb1_cX10_thoseThere_0 di_101 (Nat.zero_lt_succ _) rfl
theorem dX10_thoseThere_24 : decode cX10_thoseThere 24 = .ok (.ifCond .lt 6, 3) := dz1 (k := 24) (m := 3) dzb1_cX10_thoseThere_0 di_494 (Nat.zero_lt_succ _) rfl
theorem dX10_thoseThere_27 : decode cX10_thoseThere 27 = .ok (.iinc 1 1, 3) := dz1 (k := 27) (m := 3) dzb1_cX10_thoseThere_0 di_111 (Nat.zero_lt_succ _) rfl
theorem dX10_thoseThere_30 : decode cX10_thoseThere 30 = .ok (.iinc 4 1, 3) := dz1 (k := 30) (m := 3) dzb1_cX10_thoseThere_0 di_63 (Nat.zero_lt_succ _) rfl
set_option maxRecDepth 100000 in
theorem dzb1_cX10_thoseThere_32 : DzLies cX10_thoseThere (.mk ⟨[0x01, 0xa7, 0xff, 0xe9, 0x1b, 0xac]⟩) 32 := dz_lies (m := 6) (Nat.zero_lt_succ _) rfl
theorem dX10_thoseThere_33 : decode cX10_thoseThere 33 = .ok (.goto (-23), 3) := dz1 (k := 1) (m := 3) dzb1_cX10_thoseThere_32 di_32 (Nat.zero_lt_succ _) rfl
theorem dX10_thoseThere_36 : decode cX10_thoseThere 36 = .ok (.iload_n 1, 1) := dz1 (k := 4) (m := 1) dzb1_cX10_thoseThere_32 di_11 (Nat.zero_lt_succ _) rfl
theorem dX10_thoseThere_37 : decode cX10_thoseThere 37 = .ok (.ireturn, 1) := dz1 (k := 5) (m := 1) dzb1_cX10_thoseThere_32 di_13 (Nat.zero_lt_succ _) rfl
set_option maxRecDepth 100000 in
theorem dzb1_cX10_keptHalls_0 : DzLies cX10_keptHalls (.mk ⟨[0x03, 0x3c, 0x03, 0x3d, 0x1c, 0x06, 0xa2, 0x00, 0x18, 0x2a, 0xb4, 0x00, 0x38, 0x1c, 0x32, 0xb4, 0x00, 0x53, 0x9b, 0x00, 0x06, 0x84, 0x01, 0x01, 0x84, 0x02, 0x01, 0xa7, 0xff, 0xe9, 0x1b, 0xac]⟩) 0 := dz_lies (m := 32) (Nat.zero_lt_succ _) rfl
theorem dX10_keptHalls_0 : decode cX10_keptHalls 0 = .ok (.iconst 0, 1) := dz1 (k := 0) (m := 1) dzb1_cX10_keptHalls_0 di_8 (Nat.zero_lt_succ _) rfl
theorem dX10_keptHalls_1 : decode cX10_keptHalls 1 = .ok (.istore_n 1, 1) := dz1 (k := 1) (m := 1) dzb1_cX10_keptHalls_0 di_68 (Nat.zero_lt_succ _) rfl
theorem dX10_keptHalls_2 : decode cX10_keptHalls 2 = .ok (.iconst 0, 1) := dz1 (k := 2) (m := 1) dzb1_cX10_keptHalls_0 di_8 (Nat.zero_lt_succ _) rfl
theorem dX10_keptHalls_3 : decode cX10_keptHalls 3 = .ok (.istore_n 2, 1) := dz1 (k := 3) (m := 1) dzb1_cX10_keptHalls_0 di_27 (Nat.zero_lt_succ _) rfl
theorem dX10_keptHalls_4 : decode cX10_keptHalls 4 = .ok (.iload_n 2, 1) := dz1 (k := 4) (m := 1) dzb1_cX10_keptHalls_0 di_28 (Nat.zero_lt_succ _) rfl
theorem dX10_keptHalls_5 : decode cX10_keptHalls 5 = .ok (.iconst 3, 1) := dz1 (k := 5) (m := 1) dzb1_cX10_keptHalls_0 di_4 (Nat.zero_lt_succ _) rfl
theorem dX10_keptHalls_6 : decode cX10_keptHalls 6 = .ok (.if_icmp .ge 24, 3) := dz1 (k := 6) (m := 3) dzb1_cX10_keptHalls_0 di_248 (Nat.zero_lt_succ _) rfl
theorem dX10_keptHalls_9 : decode cX10_keptHalls 9 = .ok (.aload_n 0, 1) := dz1 (k := 9) (m := 1) dzb1_cX10_keptHalls_0 di_0 (Nat.zero_lt_succ _) rfl
theorem dX10_keptHalls_10 : decode cX10_keptHalls 10 = .ok (.getfield 56, 3) := dz1 (k := 10) (m := 3) dzb1_cX10_keptHalls_0 di_224 (Nat.zero_lt_succ _) rfl
theorem dX10_keptHalls_13 : decode cX10_keptHalls 13 = .ok (.iload_n 2, 1) := dz1 (k := 13) (m := 1) dzb1_cX10_keptHalls_0 di_28 (Nat.zero_lt_succ _) rfl
theorem dX10_keptHalls_14 : decode cX10_keptHalls 14 = .ok (.aaload, 1) := dz1 (k := 14) (m := 1) dzb1_cX10_keptHalls_0 di_130 (Nat.zero_lt_succ _) rfl
theorem dX10_keptHalls_15 : decode cX10_keptHalls 15 = .ok (.getfield 83, 3) := dz1 (k := 15) (m := 3) dzb1_cX10_keptHalls_0 di_309 (Nat.zero_lt_succ _) rfl
theorem dX10_keptHalls_18 : decode cX10_keptHalls 18 = .ok (.ifCond .lt 6, 3) := dz1 (k := 18) (m := 3) dzb1_cX10_keptHalls_0 di_494 (Nat.zero_lt_succ _) rfl
theorem dX10_keptHalls_21 : decode cX10_keptHalls 21 = .ok (.iinc 1 1, 3) := dz1 (k := 21) (m := 3) dzb1_cX10_keptHalls_0 di_111 (Nat.zero_lt_succ _) rfl
theorem dX10_keptHalls_24 : decode cX10_keptHalls 24 = .ok (.iinc 2 1, 3) := dz1 (k := 24) (m := 3) dzb1_cX10_keptHalls_0 di_31 (Nat.zero_lt_succ _) rfl
theorem dX10_keptHalls_27 : decode cX10_keptHalls 27 = .ok (.goto (-23), 3) := dz1 (k := 27) (m := 3) dzb1_cX10_keptHalls_0 di_32 (Nat.zero_lt_succ _) rfl
theorem dX10_keptHalls_30 : decode cX10_keptHalls 30 = .ok (.iload_n 1, 1) := dz1 (k := 30) (m := 1) dzb1_cX10_keptHalls_0 di_11 (Nat.zero_lt_succ _) rfl
theorem dX10_keptHalls_31 : decode cX10_keptHalls 31 = .ok (.ireturn, 1) := dz1 (k := 31) (m := 1) dzb1_cX10_keptHalls_0 di_13 (Nat.zero_lt_succ _) rfl
