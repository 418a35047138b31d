set_option maxRecDepth 100000 in
theorem dzc1_cX11_mark_96 : DzLies cX11_mark (.mk ⟨[0x00, 0x04, 0x03, 0x1d, 0x06, 0x7a, 0xb8, 0x00, 0x85, 0x04, 0xa4, 0x00, 0x07, 0x04, 0xa7, 0x00, 0x04, 0x03, 0x60, 0xac, 0x1c, 0x07, 0xa0, 0x00, 0x0b, 0x2a, 0xb4, 0x00, 0x26, 0x10, 0x07, 0x2e]⟩) 96 := dz_lies (m := 32) (Nat.zero_lt_succ _) rfl
theorem dX11_mark_127 : decode cX11_mark 127 = .ok (.iaload, 1) := dz1 (k := 31) (m := 1) dzc1_cX11_mark_96 di_30 (Nat.zero_lt_succ _) rfl
set_option maxRecDepth 100000 in
theorem dzc1_cX11_mark_128 : DzLies cX11_mark (.mk ⟨[0xac, 0x03, 0x36, 0x04, 0x03, 0x36, 0x05, 0x15, 0x05, 0x10, 0x06, 0xa2, 0x00, 0x2e, 0x15, 0x04, 0x2a, 0x1b, 0x04, 0x2a, 0xb4, 0x00, 0x1d, 0x10, 0x06, 0x1b, 0x68, 0x15, 0x05, 0x60, 0x2e, 0x10, 0x0c]⟩) 128 := dz_lies (m := 33) (Nat.zero_lt_succ _) rfl
theorem dX11_mark_128 : decode cX11_mark 128 = .ok (.ireturn, 1) := dz1 (k := 0) (m := 1) dzc1_cX11_mark_128 di_13 (Nat.zero_lt_succ _) rfl
theorem dX11_mark_129 : decode cX11_mark 129 = .ok (.iconst 0, 1) := dz1 (k := 1) (m := 1) dzc1_cX11_mark_128 di_8 (Nat.zero_lt_succ _) rfl
theorem dX11_mark_130 : decode cX11_mark 130 = .ok (.istore 4, 2) := dz1 (k := 2) (m := 2) dzc1_cX11_mark_128 di_51 (Nat.zero_lt_succ _) rfl
theorem dX11_mark_132 : decode cX11_mark 132 = .ok (.iconst 0, 1) := dz1 (k := 4) (m := 1) dzc1_cX11_mark_128 di_8 (Nat.zero_lt_succ _) rfl
theorem dX11_mark_133 : decode cX11_mark 133 = .ok (.istore 5, 2) := dz1 (k := 5) (m := 2) dzc1_cX11_mark_128 di_100 (Nat.zero_lt_succ _) rfl
theorem dX11_mark_135 : decode cX11_mark 135 = .ok (.iload 5, 2) := dz1 (k := 7) (m := 2) dzc1_cX11_mark_128 di_101 (Nat.zero_lt_succ _) rfl
theorem dX11_mark_137 : decode cX11_mark 137 = .ok (.bipush 6, 2) := dz1 (k := 9) (m := 2) dzc1_cX11_mark_128 di_86 (Nat.zero_lt_succ _) rfl
theorem dX11_mark_139 : decode cX11_mark 139 = .ok (.if_icmp .ge 46, 3) := dz1 (k := 11) (m := 3) dzc1_cX11_mark_128 di_607 (Nat.zero_lt_succ _) rfl
theorem dX11_mark_142 : decode cX11_mark 142 = .ok (.iload 4, 2) := dz1 (k := 14) (m := 2) dzc1_cX11_mark_128 di_52 (Nat.zero_lt_succ _) rfl
theorem dX11_mark_144 : decode cX11_mark 144 = .ok (.aload_n 0, 1) := dz1 (k := 16) (m := 1) dzc1_cX11_mark_128 di_0 (Nat.zero_lt_succ _) rfl
theorem dX11_mark_145 : decode cX11_mark 145 = .ok (.iload_n 1, 1) := dz1 (k := 17) (m := 1) dzc1_cX11_mark_128 di_11 (Nat.zero_lt_succ _) rfl
theorem dX11_mark_146 : decode cX11_mark 146 = .ok (.iconst 1, 1) := dz1 (k := 18) (m := 1) dzc1_cX11_mark_128 di_10 (Nat.zero_lt_succ _) rfl
theorem dX11_mark_147 : decode cX11_mark 147 = .ok (.aload_n 0, 1) := dz1 (k := 19) (m := 1) dzc1_cX11_mark_128 di_0 (Nat.zero_lt_succ _) rfl
theorem dX11_mark_148 : decode cX11_mark 148 = .ok (.getfield 29, 3) := dz1 (k := 20) (m := 3) dzc1_cX11_mark_128 di_36 (Nat.zero_lt_succ _) rfl
theorem dX11_mark_151 : decode cX11_mark 151 = .ok (.bipush 6, 2) := dz1 (k := 23) (m := 2) dzc1_cX11_mark_128 di_86 (Nat.zero_lt_succ _) rfl
theorem dX11_mark_153 : decode cX11_mark 153 = .ok (.iload_n 1, 1) := dz1 (k := 25) (m := 1) dzc1_cX11_mark_128 di_11 (Nat.zero_lt_succ _) rfl
theorem dX11_mark_154 : decode cX11_mark 154 = .ok (.imul, 1) := dz1 (k := 26) (m := 1) dzc1_cX11_mark_128 di_113 (Nat.zero_lt_succ _) rfl
theorem dX11_mark_155 : decode cX11_mark 155 = .ok (.iload 5, 2) := dz1 (k := 27) (m := 2) dzc1_cX11_mark_128 di_101 (Nat.zero_lt_succ _) rfl
theorem dX11_mark_157 : decode cX11_mark 157 = .ok (.iadd, 1) := dz1 (k := 29) (m := 1) dzc1_cX11_mark_128 di_24 (Nat.zero_lt_succ _) rfl
theorem dX11_mark_158 : decode cX11_mark 158 = .ok (.iaload, 1) := dz1 (k := 30) (m := 1) dzc1_cX11_mark_128 di_30 (Nat.zero_lt_succ _) rfl
theorem dX11_mark_159 : decode cX11_mark 159 = .ok (.bipush 12, 2) := dz1 (k := 31) (m := 2) dzc1_cX11_mark_128 di_126 (Nat.zero_lt_succ _) rfl
set_option maxRecDepth 100000 in
theorem dzc1_cX11_mark_160 : DzLies cX11_mark (.mk ⟨[0x0c, 0x70, 0x04, 0x60, 0x78, 0xb6, 0x00, 0x92, 0x99, 0x00, 0x07, 0x04, 0xa7, 0x00, 0x04, 0x03, 0x60, 0x36, 0x04, 0x84, 0x05, 0x01, 0xa7, 0xff, 0xd1, 0x15, 0x04, 0xac]⟩) 160 := dz_lies (m := 28) (Nat.zero_lt_succ _) rfl
theorem dX11_mark_161 : decode cX11_mark 161 = .ok (.irem, 1) := dz1 (k := 1) (m := 1) dzc1_cX11_mark_160 di_5 (Nat.zero_lt_succ _) rfl
theorem dX11_mark_162 : decode cX11_mark 162 = .ok (.iconst 1, 1) := dz1 (k := 2) (m := 1) dzc1_cX11_mark_160 di_10 (Nat.zero_lt_succ _) rfl
theorem dX11_mark_163 : decode cX11_mark 163 = .ok (.iadd, 1) := dz1 (k := 3) (m := 1) dzc1_cX11_mark_160 di_24 (Nat.zero_lt_succ _) rfl
theorem dX11_mark_164 : decode cX11_mark 164 = .ok (.ishl, 1) := dz1 (k := 4) (m := 1) dzc1_cX11_mark_160 di_12 (Nat.zero_lt_succ _) rfl
theorem dX11_mark_165 : decode cX11_mark 165 = .ok (.invokevirtual 146, 3) := dz1 (k := 5) (m := 3) dzc1_cX11_mark_160 di_591 (Nat.zero_lt_succ _) rfl
theorem dX11_mark_168 : decode cX11_mark 168 = .ok (.ifCond .eq 7, 3) := dz1 (k := 8) (m := 3) dzc1_cX11_mark_160 di_608 (Nat.zero_lt_succ _) rfl
theorem dX11_mark_171 : decode cX11_mark 171 = .ok (.iconst 1, 1) := dz1 (k := 11) (m := 1) dzc1_cX11_mark_160 di_10 (Nat.zero_lt_succ _) rfl
theorem dX11_mark_172 : decode cX11_mark 172 = .ok (.goto 4, 3) := dz1 (k := 12) (m := 3) dzc1_cX11_mark_160 di_49 (Nat.zero_lt_succ _) rfl
theorem dX11_mark_175 : decode cX11_mark 175 = .ok (.iconst 0, 1) := dz1 (k := 15) (m := 1) dzc1_cX11_mark_160 di_8 (Nat.zero_lt_succ _) rfl
theorem dX11_mark_176 : decode cX11_mark 176 = .ok (.iadd, 1) := dz1 (k := 16) (m := 1) dzc1_cX11_mark_160 di_24 (Nat.zero_lt_succ _) rfl
theorem dX11_mark_177 : decode cX11_mark 177 = .ok (.istore 4, 2) := dz1 (k := 17) (m := 2) dzc1_cX11_mark_160 di_51 (Nat.zero_lt_succ _) rfl
theorem dX11_mark_179 : decode cX11_mark 179 = .ok (.iinc 5 1, 3) := dz1 (k := 19) (m := 3) dzc1_cX11_mark_160 di_131 (Nat.zero_lt_succ _) rfl
theorem dX11_mark_182 : decode cX11_mark 182 = .ok (.goto (-47), 3) := dz1 (k := 22) (m := 3) dzc1_cX11_mark_160 di_481 (Nat.zero_lt_succ _) rfl
theorem dX11_mark_185 : decode cX11_mark 185 = .ok (.iload 4, 2) := dz1 (k := 25) (m := 2) dzc1_cX11_mark_160 di_52 (Nat.zero_lt_succ _) rfl
theorem dX11_mark_187 : decode cX11_mark 187 = .ok (.ireturn, 1) := dz1 (k := 27) (m := 1) dzc1_cX11_mark_160 di_13 (Nat.zero_lt_succ _) rfl
set_option maxRecDepth 100000 in
theorem dzc1_cX11_copies_0 : DzLies cX11_copies (.mk ⟨[0x03, 0x36, 0x04, 0x15, 0x04, 0x1d, 0xa2, 0x00, 0x1b, 0x2a, 0xb4, 0x00, 0x26, 0x1c, 0x15, 0x04, 0x60, 0x2a, 0xb4, 0x00, 0x26, 0x1b, 0x15, 0x04, 0x60, 0x2e, 0x4f, 0x84, 0x04, 0x01, 0xa7, 0xff, 0xe5]⟩) 0 := dz_lies (m := 33) (Nat.zero_lt_succ _) rfl
theorem dX11_copies_0 : decode cX11_copies 0 = .ok (.iconst 0, 1) := dz1 (k := 0) (m := 1) dzc1_cX11_copies_0 di_8 (Nat.zero_lt_succ _) rfl
theorem dX11_copies_1 : decode cX11_copies 1 = .ok (.istore 4, 2) := dz1 (k := 1) (m := 2) dzc1_cX11_copies_0 di_51 (Nat.zero_lt_succ _) rfl
theorem dX11_copies_3 : decode cX11_copies 3 = .ok (.iload 4, 2) := dz1 (k := 3) (m := 2) dzc1_cX11_copies_0 di_52 (Nat.zero_lt_succ _) rfl
theorem dX11_copies_5 : decode cX11_copies 5 = .ok (.iload_n 3, 1) := dz1 (k := 5) (m := 1) dzc1_cX11_copies_0 di_3 (Nat.zero_lt_succ _) rfl
theorem dX11_copies_6 : decode cX11_copies 6 = .ok (.if_icmp .ge 27, 3) := dz1 (k := 6) (m := 3) dzc1_cX11_copies_0 di_428 (Nat.zero_lt_succ _) rfl
theorem dX11_copies_9 : decode cX11_copies 9 = .ok (.aload_n 0, 1) := dz1 (k := 9) (m := 1) dzc1_cX11_copies_0 di_0 (Nat.zero_lt_succ _) rfl
theorem dX11_copies_10 : decode cX11_copies 10 = .ok (.getfield 38, 3) := dz1 (k := 10) (m := 3) dzc1_cX11_copies_0 di_574 (Nat.zero_lt_succ _) rfl
theorem dX11_copies_13 : decode cX11_copies 13 = .ok (.iload_n 2, 1) := dz1 (k := 13) (m := 1) dzc1_cX11_copies_0 di_28 (Nat.zero_lt_succ _) rfl
theorem dX11_copies_14 : decode cX11_copies 14 = .ok (.iload 4, 2) := dz1 (k := 14) (m := 2) dzc1_cX11_copies_0 di_52 (Nat.zero_lt_succ _) rfl
theorem dX11_copies_16 : decode cX11_copies 16 = .ok (.iadd, 1) := dz1 (k := 16) (m := 1) dzc1_cX11_copies_0 di_24 (Nat.zero_lt_succ _) rfl
theorem dX11_copies_17 : decode cX11_copies 17 = .ok (.aload_n 0, 1) := dz1 (k := 17) (m := 1) dzc1_cX11_copies_0 di_0 (Nat.zero_lt_succ _) rfl
theorem dX11_copies_18 : decode cX11_copies 18 = .ok (.getfield 38, 3) := dz1 (k := 18) (m := 3) dzc1_cX11_copies_0 di_574 (Nat.zero_lt_succ _) rfl
theorem dX11_copies_21 : decode cX11_copies 21 = .ok (.iload_n 1, 1) := dz1 (k := 21) (m := 1) dzc1_cX11_copies_0 di_11 (Nat.zero_lt_succ _) rfl
theorem dX11_copies_22 : decode cX11_copies 22 = .ok (.iload 4, 2) := dz1 (k := 22) (m := 2) dzc1_cX11_copies_0 di_52 (Nat.zero_lt_succ _) rfl
theorem dX11_copies_24 : decode cX11_copies 24 = .ok (.iadd, 1) := dz1 (k := 24) (m := 1) dzc1_cX11_copies_0 di_24 (Nat.zero_lt_succ _) rfl
theorem dX11_copies_25 : decode cX11_copies 25 = .ok (.iaload, 1) := dz1 (k := 25) (m := 1) dzc1_cX11_copies_0 di_30 (Nat.zero_lt_succ _) rfl
theorem dX11_copies_26 : decode cX11_copies 26 = .ok (.iastore, 1) := dz1 (k := 26) (m := 1) dzc1_cX11_copies_0 di_22 (Nat.zero_lt_succ _) rfl
theorem dX11_copies_27 : decode cX11_copies 27 = .ok (.iinc 4 1, 3) := dz1 (k := 27) (m := 3) dzc1_cX11_copies_0 di_63 (Nat.zero_lt_succ _) rfl
theorem dX11_copies_30 : decode cX11_copies 30 = .ok (.goto (-27), 3) := dz1 (k := 30) (m := 3) dzc1_cX11_copies_0 di_429 (Nat.zero_lt_succ _) rfl
set_option maxRecDepth 100000 in
theorem dzc1_cX11_copies_32 : DzLies cX11_copies (.mk ⟨[0xe5, 0xb1]⟩) 32 := dz_lies (m := 2) (Nat.zero_lt_succ _) rfl
theorem dX11_copies_33 : decode cX11_copies 33 = .ok (.return_, 1) := dz1 (k := 1) (m := 1) dzc1_cX11_copies_32 di_2 (Nat.zero_lt_succ _) rfl
set_option maxRecDepth 100000 in
theorem dzc1_cX11_known_0 : DzLies cX11_known (.mk ⟨[0x2a, 0x59, 0xb4, 0x00, 0x7f, 0x04, 0x60, 0xb5, 0x00, 0x7f, 0x2a, 0x03, 0x2a, 0xb4, 0x00, 0x7f, 0x10, 0x08, 0x68, 0x10, 0x08, 0xb6, 0x00, 0xa0, 0xb1]⟩) 0 := dz_lies (m := 25) (Nat.zero_lt_succ _) rfl
theorem dX11_known_0 : decode cX11_known 0 = .ok (.aload_n 0, 1) := dz1 (k := 0) (m := 1) dzc1_cX11_known_0 di_0 (Nat.zero_lt_succ _) rfl
theorem dX11_known_1 : decode cX11_known 1 = .ok (.dup, 1) := dz1 (k := 1) (m := 1) dzc1_cX11_known_0 di_23 (Nat.zero_lt_succ _) rfl
theorem dX11_known_2 : decode cX11_known 2 = .ok (.getfield 127, 3) := dz1 (k := 2) (m := 3) dzc1_cX11_known_0 di_609 (Nat.zero_lt_succ _) rfl
theorem dX11_known_5 : decode cX11_known 5 = .ok (.iconst 1, 1) := dz1 (k := 5) (m := 1) dzc1_cX11_known_0 di_10 (Nat.zero_lt_succ _) rfl
theorem dX11_known_6 : decode cX11_known 6 = .ok (.iadd, 1) := dz1 (k := 6) (m := 1) dzc1_cX11_known_0 di_24 (Nat.zero_lt_succ _) rfl
theorem dX11_known_7 : decode cX11_known 7 = .ok (.putfield 127, 3) := dz1 (k := 7) (m := 3) dzc1_cX11_known_0 di_575 (Nat.zero_lt_succ _) rfl
theorem dX11_known_10 : decode cX11_known 10 = .ok (.aload_n 0, 1) := dz1 (k := 10) (m := 1) dzc1_cX11_known_0 di_0 (Nat.zero_lt_succ _) rfl
theorem dX11_known_11 : decode cX11_known 11 = .ok (.iconst 0, 1) := dz1 (k := 11) (m := 1) dzc1_cX11_known_0 di_8 (Nat.zero_lt_succ _) rfl
theorem dX11_known_12 : decode cX11_known 12 = .ok (.aload_n 0, 1) := dz1 (k := 12) (m := 1) dzc1_cX11_known_0 di_0 (Nat.zero_lt_succ _) rfl
theorem dX11_known_13 : decode cX11_known 13 = .ok (.getfield 127, 3) := dz1 (k := 13) (m := 3) dzc1_cX11_known_0 di_609 (Nat.zero_lt_succ _) rfl
theorem dX11_known_16 : decode cX11_known 16 = .ok (.bipush 8, 2) := dz1 (k := 16) (m := 2) dzc1_cX11_known_0 di_184 (Nat.zero_lt_succ _) rfl
theorem dX11_known_18 : decode cX11_known 18 = .ok (.imul, 1) := dz1 (k := 18) (m := 1) dzc1_cX11_known_0 di_113 (Nat.zero_lt_succ _) rfl
theorem dX11_known_19 : decode cX11_known 19 = .ok (.bipush 8, 2) := dz1 (k := 19) (m := 2) dzc1_cX11_known_0 di_184 (Nat.zero_lt_succ _) rfl
theorem dX11_known_21 : decode cX11_known 21 = .ok (.invokevirtual 160, 3) := dz1 (k := 21) (m := 3) dzc1_cX11_known_0 di_610 (Nat.zero_lt_succ _) rfl
theorem dX11_known_24 : decode cX11_known 24 = .ok (.return_, 1) := dz1 (k := 24) (m := 1) dzc1_cX11_known_0 di_2 (Nat.zero_lt_succ _) rfl
set_option maxRecDepth 100000 in
theorem dzc1_cX11_call_0 : DzLies cX11_call (.mk ⟨[0x1b, 0x85, 0x0a, 0x14, 0x00, 0x69, 0xb8, 0x00, 0x45, 0x9a, 0x00, 0x05, 0x02, 0xac, 0x2a, 0xb4, 0x00, 0x7c, 0x99, 0x00, 0x10, 0x2a, 0xb4, 0x00, 0x26, 0x08, 0x2e, 0x1b, 0xb8, 0x00, 0x8b, 0x9a, 0x00, 0x06]⟩) 0 := dz_lies (m := 34) (Nat.zero_lt_succ _) rfl
theorem dX11_call_0 : decode cX11_call 0 = .ok (.iload_n 1, 1) := dz1 (k := 0) (m := 1) dzc1_cX11_call_0 di_11 (Nat.zero_lt_succ _) rfl
theorem dX11_call_1 : decode cX11_call 1 = .ok (.i2l, 1) := dz1 (k := 1) (m := 1) dzc1_cX11_call_0 di_250 (Nat.zero_lt_succ _) rfl
theorem dX11_call_2 : decode cX11_call 2 = .ok (.lconst 1, 1) := dz1 (k := 2) (m := 1) dzc1_cX11_call_0 di_217 (Nat.zero_lt_succ _) rfl
theorem dX11_call_3 : decode cX11_call 3 = .ok (.ldc2_w 105, 3) := dz1 (k := 3) (m := 3) dzc1_cX11_call_0 di_559 (Nat.zero_lt_succ _) rfl
theorem dX11_call_6 : decode cX11_call 6 = .ok (.invokestatic 69, 3) := dz1 (k := 6) (m := 3) dzc1_cX11_call_0 di_522 (Nat.zero_lt_succ _) rfl
theorem dX11_call_9 : decode cX11_call 9 = .ok (.ifCond .ne 5, 3) := dz1 (k := 9) (m := 3) dzc1_cX11_call_0 di_239 (Nat.zero_lt_succ _) rfl
theorem dX11_call_12 : decode cX11_call 12 = .ok (.iconst (-1), 1) := dz1 (k := 12) (m := 1) dzc1_cX11_call_0 di_65 (Nat.zero_lt_succ _) rfl
theorem dX11_call_13 : decode cX11_call 13 = .ok (.ireturn, 1) := dz1 (k := 13) (m := 1) dzc1_cX11_call_0 di_13 (Nat.zero_lt_succ _) rfl
theorem dX11_call_14 : decode cX11_call 14 = .ok (.aload_n 0, 1) := dz1 (k := 14) (m := 1) dzc1_cX11_call_0 di_0 (Nat.zero_lt_succ _) rfl
theorem dX11_call_15 : decode cX11_call 15 = .ok (.getfield 124, 3) := dz1 (k := 15) (m := 3) dzc1_cX11_call_0 di_572 (Nat.zero_lt_succ _) rfl
theorem dX11_call_18 : decode cX11_call 18 = .ok (.ifCond .eq 16, 3) := dz1 (k := 18) (m := 3) dzc1_cX11_call_0 di_476 (Nat.zero_lt_succ _) rfl
theorem dX11_call_21 : decode cX11_call 21 = .ok (.aload_n 0, 1) := dz1 (k := 21) (m := 1) dzc1_cX11_call_0 di_0 (Nat.zero_lt_succ _) rfl
theorem dX11_call_22 : decode cX11_call 22 = .ok (.getfield 38, 3) := dz1 (k := 22) (m := 3) dzc1_cX11_call_0 di_574 (Nat.zero_lt_succ _) rfl
theorem dX11_call_25 : decode cX11_call 25 = .ok (.iconst 5, 1) := dz1 (k := 25) (m := 1) dzc1_cX11_call_0 di_145 (Nat.zero_lt_succ _) rfl
theorem dX11_call_26 : decode cX11_call 26 = .ok (.iaload, 1) := dz1 (k := 26) (m := 1) dzc1_cX11_call_0 di_30 (Nat.zero_lt_succ _) rfl
theorem dX11_call_27 : decode cX11_call 27 = .ok (.iload_n 1, 1) := dz1 (k := 27) (m := 1) dzc1_cX11_call_0 di_11 (Nat.zero_lt_succ _) rfl
theorem dX11_call_28 : decode cX11_call 28 = .ok (.invokestatic 139, 3) := dz1 (k := 28) (m := 3) dzc1_cX11_call_0 di_587 (Nat.zero_lt_succ _) rfl
theorem dX11_call_31 : decode cX11_call 31 = .ok (.ifCond .ne 6, 3) := dz1 (k := 31) (m := 3) dzc1_cX11_call_0 di_308 (Nat.zero_lt_succ _) rfl
set_option maxRecDepth 100000 in
theorem dzc1_cX11_call_32 : DzLies cX11_call (.mk ⟨[0x00, 0x06, 0x10, 0xfc, 0xac, 0x2a, 0xb4, 0x00, 0x7f, 0x10, 0x28, 0xa0, 0x00, 0x06, 0x10, 0xfe, 0xac, 0x2a, 0xb6, 0x00, 0xa4, 0x2a, 0x03, 0x1b, 0xb6, 0x00, 0xa7, 0xac]⟩) 32 := dz_lies (m := 28) (Nat.zero_lt_succ _) rfl
theorem dX11_call_34 : decode cX11_call 34 = .ok (.bipush (-4), 2) := dz1 (k := 2) (m := 2) dzc1_cX11_call_32 di_264 (Nat.zero_lt_succ _) rfl
theorem dX11_call_36 : decode cX11_call 36 = .ok (.ireturn, 1) := dz1 (k := 4) (m := 1) dzc1_cX11_call_32 di_13 (Nat.zero_lt_succ _) rfl
theorem dX11_call_37 : decode cX11_call 37 = .ok (.aload_n 0, 1) := dz1 (k := 5) (m := 1) dzc1_cX11_call_32 di_0 (Nat.zero_lt_succ _) rfl
theorem dX11_call_38 : decode cX11_call 38 = .ok (.getfield 127, 3) := dz1 (k := 6) (m := 3) dzc1_cX11_call_32 di_609 (Nat.zero_lt_succ _) rfl
theorem dX11_call_41 : decode cX11_call 41 = .ok (.bipush 40, 2) := dz1 (k := 9) (m := 2) dzc1_cX11_call_32 di_16 (Nat.zero_lt_succ _) rfl
theorem dX11_call_43 : decode cX11_call 43 = .ok (.if_icmp .ne 6, 3) := dz1 (k := 11) (m := 3) dzc1_cX11_call_32 di_128 (Nat.zero_lt_succ _) rfl
theorem dX11_call_46 : decode cX11_call 46 = .ok (.bipush (-2), 2) := dz1 (k := 14) (m := 2) dzc1_cX11_call_32 di_311 (Nat.zero_lt_succ _) rfl
theorem dX11_call_48 : decode cX11_call 48 = .ok (.ireturn, 1) := dz1 (k := 16) (m := 1) dzc1_cX11_call_32 di_13 (Nat.zero_lt_succ _) rfl
theorem dX11_call_49 : decode cX11_call 49 = .ok (.aload_n 0, 1) := dz1 (k := 17) (m := 1) dzc1_cX11_call_32 di_0 (Nat.zero_lt_succ _) rfl
theorem dX11_call_50 : decode cX11_call 50 = .ok (.invokevirtual 164, 3) := dz1 (k := 18) (m := 3) dzc1_cX11_call_32 di_611 (Nat.zero_lt_succ _) rfl
theorem dX11_call_53 : decode cX11_call 53 = .ok (.aload_n 0, 1) := dz1 (k := 21) (m := 1) dzc1_cX11_call_32 di_0 (Nat.zero_lt_succ _) rfl
theorem dX11_call_54 : decode cX11_call 54 = .ok (.iconst 0, 1) := dz1 (k := 22) (m := 1) dzc1_cX11_call_32 di_8 (Nat.zero_lt_succ _) rfl
theorem dX11_call_55 : decode cX11_call 55 = .ok (.iload_n 1, 1) := dz1 (k := 23) (m := 1) dzc1_cX11_call_32 di_11 (Nat.zero_lt_succ _) rfl
theorem dX11_call_56 : decode cX11_call 56 = .ok (.invokevirtual 167, 3) := dz1 (k := 24) (m := 3) dzc1_cX11_call_32 di_295 (Nat.zero_lt_succ _) rfl
theorem dX11_call_59 : decode cX11_call 59 = .ok (.ireturn, 1) := dz1 (k := 27) (m := 1) dzc1_cX11_call_32 di_13 (Nat.zero_lt_succ _) rfl
set_option maxRecDepth 100000 in
theorem dzc1_cX11_rub_0 : DzLies cX11_rub (.mk ⟨[0x2a, 0x1b, 0xb6, 0x00, 0x98, 0x99, 0x00, 0x0f, 0x1c, 0x85, 0x09, 0x14, 0x00, 0x43, 0xb8, 0x00, 0x45, 0x9a, 0x00, 0x05, 0x02, 0xac, 0x2a, 0xb4, 0x00, 0x7f, 0x10, 0x28, 0xa0, 0x00, 0x06, 0x10, 0xfe]⟩) 0 := dz_lies (m := 33) (Nat.zero_lt_succ _) rfl
theorem dX11_rub_0 : decode cX11_rub 0 = .ok (.aload_n 0, 1) := dz1 (k := 0) (m := 1) dzc1_cX11_rub_0 di_0 (Nat.zero_lt_succ _) rfl
theorem dX11_rub_1 : decode cX11_rub 1 = .ok (.iload_n 1, 1) := dz1 (k := 1) (m := 1) dzc1_cX11_rub_0 di_11 (Nat.zero_lt_succ _) rfl
theorem dX11_rub_2 : decode cX11_rub 2 = .ok (.invokevirtual 152, 3) := dz1 (k := 2) (m := 3) dzc1_cX11_rub_0 di_600 (Nat.zero_lt_succ _) rfl
theorem dX11_rub_5 : decode cX11_rub 5 = .ok (.ifCond .eq 15, 3) := dz1 (k := 5) (m := 3) dzc1_cX11_rub_0 di_242 (Nat.zero_lt_succ _) rfl
theorem dX11_rub_8 : decode cX11_rub 8 = .ok (.iload_n 2, 1) := dz1 (k := 8) (m := 1) dzc1_cX11_rub_0 di_28 (Nat.zero_lt_succ _) rfl
theorem dX11_rub_9 : decode cX11_rub 9 = .ok (.i2l, 1) := dz1 (k := 9) (m := 1) dzc1_cX11_rub_0 di_250 (Nat.zero_lt_succ _) rfl
theorem dX11_rub_10 : decode cX11_rub 10 = .ok (.lconst 0, 1) := dz1 (k := 10) (m := 1) dzc1_cX11_rub_0 di_246 (Nat.zero_lt_succ _) rfl
theorem dX11_rub_11 : decode cX11_rub 11 = .ok (.ldc2_w 67, 3) := dz1 (k := 11) (m := 3) dzc1_cX11_rub_0 di_521 (Nat.zero_lt_succ _) rfl
theorem dX11_rub_14 : decode cX11_rub 14 = .ok (.invokestatic 69, 3) := dz1 (k := 14) (m := 3) dzc1_cX11_rub_0 di_522 (Nat.zero_lt_succ _) rfl
theorem dX11_rub_17 : decode cX11_rub 17 = .ok (.ifCond .ne 5, 3) := dz1 (k := 17) (m := 3) dzc1_cX11_rub_0 di_239 (Nat.zero_lt_succ _) rfl
theorem dX11_rub_20 : decode cX11_rub 20 = .ok (.iconst (-1), 1) := dz1 (k := 20) (m := 1) dzc1_cX11_rub_0 di_65 (Nat.zero_lt_succ _) rfl
theorem dX11_rub_21 : decode cX11_rub 21 = .ok (.ireturn, 1) := dz1 (k := 21) (m := 1) dzc1_cX11_rub_0 di_13 (Nat.zero_lt_succ _) rfl
theorem dX11_rub_22 : decode cX11_rub 22 = .ok (.aload_n 0, 1) := dz1 (k := 22) (m := 1) dzc1_cX11_rub_0 di_0 (Nat.zero_lt_succ _) rfl
theorem dX11_rub_23 : decode cX11_rub 23 = .ok (.getfield 127, 3) := dz1 (k := 23) (m := 3) dzc1_cX11_rub_0 di_609 (Nat.zero_lt_succ _) rfl
theorem dX11_rub_26 : decode cX11_rub 26 = .ok (.bipush 40, 2) := dz1 (k := 26) (m := 2) dzc1_cX11_rub_0 di_16 (Nat.zero_lt_succ _) rfl
theorem dX11_rub_28 : decode cX11_rub 28 = .ok (.if_icmp .ne 6, 3) := dz1 (k := 28) (m := 3) dzc1_cX11_rub_0 di_128 (Nat.zero_lt_succ _) rfl
theorem dX11_rub_31 : decode cX11_rub 31 = .ok (.bipush (-2), 2) := dz1 (k := 31) (m := 2) dzc1_cX11_rub_0 di_311 (Nat.zero_lt_succ _) rfl
set_option maxRecDepth 100000 in
theorem dzc1_cX11_rub_32 : DzLies cX11_rub (.mk ⟨[0xfe, 0xac, 0x2a, 0xb6, 0x00, 0xa4, 0x2a, 0xb4, 0x00, 0x26, 0x1b, 0x5c, 0x2e, 0x04, 0x1c, 0x78, 0x82, 0x4f, 0x2a, 0xb4, 0x00, 0x26, 0x1b, 0x2e, 0xac]⟩) 32 := dz_lies (m := 25) (Nat.zero_lt_succ _) rfl
theorem dX11_rub_33 : decode cX11_rub 33 = .ok (.ireturn, 1) := dz1 (k := 1) (m := 1) dzc1_cX11_rub_32 di_13 (Nat.zero_lt_succ _) rfl
theorem dX11_rub_34 : decode cX11_rub 34 = .ok (.aload_n 0, 1) := dz1 (k := 2) (m := 1) dzc1_cX11_rub_32 di_0 (Nat.zero_lt_succ _) rfl
theorem dX11_rub_35 : decode cX11_rub 35 = .ok (.invokevirtual 164, 3) := dz1 (k := 3) (m := 3) dzc1_cX11_rub_32 di_611 (Nat.zero_lt_succ _) rfl
theorem dX11_rub_38 : decode cX11_rub 38 = .ok (.aload_n 0, 1) := dz1 (k := 6) (m := 1) dzc1_cX11_rub_32 di_0 (Nat.zero_lt_succ _) rfl
theorem dX11_rub_39 : decode cX11_rub 39 = .ok (.getfield 38, 3) := dz1 (k := 7) (m := 3) dzc1_cX11_rub_32 di_574 (Nat.zero_lt_succ _) rfl
theorem dX11_rub_42 : decode cX11_rub 42 = .ok (.iload_n 1, 1) := dz1 (k := 10) (m := 1) dzc1_cX11_rub_32 di_11 (Nat.zero_lt_succ _) rfl
theorem dX11_rub_43 : decode cX11_rub 43 = .ok (.dup2, 1) := dz1 (k := 11) (m := 1) dzc1_cX11_rub_32 di_67 (Nat.zero_lt_succ _) rfl
theorem dX11_rub_44 : decode cX11_rub 44 = .ok (.iaload, 1) := dz1 (k := 12) (m := 1) dzc1_cX11_rub_32 di_30 (Nat.zero_lt_succ _) rfl
theorem dX11_rub_45 : decode cX11_rub 45 = .ok (.iconst 1, 1) := dz1 (k := 13) (m := 1) dzc1_cX11_rub_32 di_10 (Nat.zero_lt_succ _) rfl
theorem dX11_rub_46 : decode cX11_rub 46 = .ok (.iload_n 2, 1) := dz1 (k := 14) (m := 1) dzc1_cX11_rub_32 di_28 (Nat.zero_lt_succ _) rfl
theorem dX11_rub_47 : decode cX11_rub 47 = .ok (.ishl, 1) := dz1 (k := 15) (m := 1) dzc1_cX11_rub_32 di_12 (Nat.zero_lt_succ _) rfl
theorem dX11_rub_48 : decode cX11_rub 48 = .ok (.ixor, 1) := dz1 (k := 16) (m := 1) dzc1_cX11_rub_32 di_66 (Nat.zero_lt_succ _) rfl
theorem dX11_rub_49 : decode cX11_rub 49 = .ok (.iastore, 1) := dz1 (k := 17) (m := 1) dzc1_cX11_rub_32 di_22 (Nat.zero_lt_succ _) rfl
theorem dX11_rub_50 : decode cX11_rub 50 = .ok (.aload_n 0, 1) := dz1 (k := 18) (m := 1) dzc1_cX11_rub_32 di_0 (Nat.zero_lt_succ _) rfl
theorem dX11_rub_51 : decode cX11_rub 51 = .ok (.getfield 38, 3) := dz1 (k := 19) (m := 3) dzc1_cX11_rub_32 di_574 (Nat.zero_lt_succ _) rfl
theorem dX11_rub_54 : decode cX11_rub 54 = .ok (.iload_n 1, 1) := dz1 (k := 22) (m := 1) dzc1_cX11_rub_32 di_11 (Nat.zero_lt_succ _) rfl
theorem dX11_rub_55 : decode cX11_rub 55 = .ok (.iaload, 1) := dz1 (k := 23) (m := 1) dzc1_cX11_rub_32 di_30 (Nat.zero_lt_succ _) rfl
theorem dX11_rub_56 : decode cX11_rub 56 = .ok (.ireturn, 1) := dz1 (k := 24) (m := 1) dzc1_cX11_rub_32 di_13 (Nat.zero_lt_succ _) rfl
set_option maxRecDepth 100000 in
theorem dzc1_cX11_undo_0 : DzLies cX11_undo (.mk ⟨[0x1b, 0x85, 0x09, 0x2a, 0xb4, 0x00, 0x7f, 0x85, 0xb8, 0x00, 0x45, 0x9a, 0x00, 0x05, 0x02, 0xac, 0x2a, 0xb4, 0x00, 0x7f, 0x1b, 0x64, 0x3d, 0x1c, 0x9e, 0x00, 0x15, 0x2a, 0x1b, 0x04, 0x60, 0x10, 0x08]⟩) 0 := dz_lies (m := 33) (Nat.zero_lt_succ _) rfl
theorem dX11_undo_0 : decode cX11_undo 0 = .ok (.iload_n 1, 1) := dz1 (k := 0) (m := 1) dzc1_cX11_undo_0 di_11 (Nat.zero_lt_succ _) rfl
theorem dX11_undo_1 : decode cX11_undo 1 = .ok (.i2l, 1) := dz1 (k := 1) (m := 1) dzc1_cX11_undo_0 di_250 (Nat.zero_lt_succ _) rfl
theorem dX11_undo_2 : decode cX11_undo 2 = .ok (.lconst 0, 1) := dz1 (k := 2) (m := 1) dzc1_cX11_undo_0 di_246 (Nat.zero_lt_succ _) rfl
theorem dX11_undo_3 : decode cX11_undo 3 = .ok (.aload_n 0, 1) := dz1 (k := 3) (m := 1) dzc1_cX11_undo_0 di_0 (Nat.zero_lt_succ _) rfl
theorem dX11_undo_4 : decode cX11_undo 4 = .ok (.getfield 127, 3) := dz1 (k := 4) (m := 3) dzc1_cX11_undo_0 di_609 (Nat.zero_lt_succ _) rfl
theorem dX11_undo_7 : decode cX11_undo 7 = .ok (.i2l, 1) := dz1 (k := 7) (m := 1) dzc1_cX11_undo_0 di_250 (Nat.zero_lt_succ _) rfl
theorem dX11_undo_8 : decode cX11_undo 8 = .ok (.invokestatic 69, 3) := dz1 (k := 8) (m := 3) dzc1_cX11_undo_0 di_522 (Nat.zero_lt_succ _) rfl
theorem dX11_undo_11 : decode cX11_undo 11 = .ok (.ifCond .ne 5, 3) := dz1 (k := 11) (m := 3) dzc1_cX11_undo_0 di_239 (Nat.zero_lt_succ _) rfl
theorem dX11_undo_14 : decode cX11_undo 14 = .ok (.iconst (-1), 1) := dz1 (k := 14) (m := 1) dzc1_cX11_undo_0 di_65 (Nat.zero_lt_succ _) rfl
theorem dX11_undo_15 : decode cX11_undo 15 = .ok (.ireturn, 1) := dz1 (k := 15) (m := 1) dzc1_cX11_undo_0 di_13 (Nat.zero_lt_succ _) rfl
theorem dX11_undo_16 : decode cX11_undo 16 = .ok (.aload_n 0, 1) := dz1 (k := 16) (m := 1) dzc1_cX11_undo_0 di_0 (Nat.zero_lt_succ _) rfl
theorem dX11_undo_17 : decode cX11_undo 17 = .ok (.getfield 127, 3) := dz1 (k := 17) (m := 3) dzc1_cX11_undo_0 di_609 (Nat.zero_lt_succ _) rfl
theorem dX11_undo_20 : decode cX11_undo 20 = .ok (.iload_n 1, 1) := dz1 (k := 20) (m := 1) dzc1_cX11_undo_0 di_11 (Nat.zero_lt_succ _) rfl
theorem dX11_undo_21 : decode cX11_undo 21 = .ok (.isub, 1) := dz1 (k := 21) (m := 1) dzc1_cX11_undo_0 di_14 (Nat.zero_lt_succ _) rfl
theorem dX11_undo_22 : decode cX11_undo 22 = .ok (.istore_n 2, 1) := dz1 (k := 22) (m := 1) dzc1_cX11_undo_0 di_27 (Nat.zero_lt_succ _) rfl
theorem dX11_undo_23 : decode cX11_undo 23 = .ok (.iload_n 2, 1) := dz1 (k := 23) (m := 1) dzc1_cX11_undo_0 di_28 (Nat.zero_lt_succ _) rfl
theorem dX11_undo_24 : decode cX11_undo 24 = .ok (.ifCond .le 21, 3) := dz1 (k := 24) (m := 3) dzc1_cX11_undo_0 di_612 (Nat.zero_lt_succ _) rfl
theorem dX11_undo_27 : decode cX11_undo 27 = .ok (.aload_n 0, 1) := dz1 (k := 27) (m := 1) dzc1_cX11_undo_0 di_0 (Nat.zero_lt_succ _) rfl
theorem dX11_undo_28 : decode cX11_undo 28 = .ok (.iload_n 1, 1) := dz1 (k := 28) (m := 1) dzc1_cX11_undo_0 di_11 (Nat.zero_lt_succ _) rfl
theorem dX11_undo_29 : decode cX11_undo 29 = .ok (.iconst 1, 1) := dz1 (k := 29) (m := 1) dzc1_cX11_undo_0 di_10 (Nat.zero_lt_succ _) rfl
theorem dX11_undo_30 : decode cX11_undo 30 = .ok (.iadd, 1) := dz1 (k := 30) (m := 1) dzc1_cX11_undo_0 di_24 (Nat.zero_lt_succ _) rfl
theorem dX11_undo_31 : decode cX11_undo 31 = .ok (.bipush 8, 2) := dz1 (k := 31) (m := 2) dzc1_cX11_undo_0 di_184 (Nat.zero_lt_succ _) rfl
set_option maxRecDepth 100000 in
theorem dzc1_cX11_undo_32 : DzLies cX11_undo (.mk ⟨[0x08, 0x68, 0x03, 0x10, 0x08, 0xb6, 0x00, 0xa0, 0x2a, 0x1b, 0xb5, 0x00, 0x7f, 0x1c, 0xac]⟩) 32 := dz_lies (m := 15) (Nat.zero_lt_succ _) rfl
theorem dX11_undo_33 : decode cX11_undo 33 = .ok (.imul, 1) := dz1 (k := 1) (m := 1) dzc1_cX11_undo_32 di_113 (Nat.zero_lt_succ _) rfl
theorem dX11_undo_34 : decode cX11_undo 34 = .ok (.iconst 0, 1) := dz1 (k := 2) (m := 1) dzc1_cX11_undo_32 di_8 (Nat.zero_lt_succ _) rfl
theorem dX11_undo_35 : decode cX11_undo 35 = .ok (.bipush 8, 2) := dz1 (k := 3) (m := 2) dzc1_cX11_undo_32 di_184 (Nat.zero_lt_succ _) rfl
theorem dX11_undo_37 : decode cX11_undo 37 = .ok (.invokevirtual 160, 3) := dz1 (k := 5) (m := 3) dzc1_cX11_undo_32 di_610 (Nat.zero_lt_succ _) rfl
theorem dX11_undo_40 : decode cX11_undo 40 = .ok (.aload_n 0, 1) := dz1 (k := 8) (m := 1) dzc1_cX11_undo_32 di_0 (Nat.zero_lt_succ _) rfl
theorem dX11_undo_41 : decode cX11_undo 41 = .ok (.iload_n 1, 1) := dz1 (k := 9) (m := 1) dzc1_cX11_undo_32 di_11 (Nat.zero_lt_succ _) rfl
theorem dX11_undo_42 : decode cX11_undo 42 = .ok (.putfield 127, 3) := dz1 (k := 10) (m := 3) dzc1_cX11_undo_32 di_575 (Nat.zero_lt_succ _) rfl
theorem dX11_undo_45 : decode cX11_undo 45 = .ok (.iload_n 2, 1) := dz1 (k := 13) (m := 1) dzc1_cX11_undo_32 di_28 (Nat.zero_lt_succ _) rfl
theorem dX11_undo_46 : decode cX11_undo 46 = .ok (.ireturn, 1) := dz1 (k := 14) (m := 1) dzc1_cX11_undo_32 di_13 (Nat.zero_lt_succ _) rfl
set_option maxRecDepth 100000 in
theorem dzc1_cX11_keep_0 : DzLies cX11_keep (.mk ⟨[0x1b, 0x85, 0x09, 0x14, 0x00, 0xaa, 0xb8, 0x00, 0x45, 0x9a, 0x00, 0x05, 0x02, 0xac, 0x2a, 0xb4, 0x00, 0x7c, 0x9a, 0x00, 0x06, 0x10, 0xfc, 0xac, 0x2a, 0x03, 0x11, 0x01, 0x48, 0x1b, 0x04, 0x60]⟩) 0 := dz_lies (m := 32) (Nat.zero_lt_succ _) rfl
theorem dX11_keep_0 : decode cX11_keep 0 = .ok (.iload_n 1, 1) := dz1 (k := 0) (m := 1) dzc1_cX11_keep_0 di_11 (Nat.zero_lt_succ _) rfl
theorem dX11_keep_1 : decode cX11_keep 1 = .ok (.i2l, 1) := dz1 (k := 1) (m := 1) dzc1_cX11_keep_0 di_250 (Nat.zero_lt_succ _) rfl
theorem dX11_keep_2 : decode cX11_keep 2 = .ok (.lconst 0, 1) := dz1 (k := 2) (m := 1) dzc1_cX11_keep_0 di_246 (Nat.zero_lt_succ _) rfl
theorem dX11_keep_3 : decode cX11_keep 3 = .ok (.ldc2_w 170, 3) := dz1 (k := 3) (m := 3) dzc1_cX11_keep_0 di_613 (Nat.zero_lt_succ _) rfl
theorem dX11_keep_6 : decode cX11_keep 6 = .ok (.invokestatic 69, 3) := dz1 (k := 6) (m := 3) dzc1_cX11_keep_0 di_522 (Nat.zero_lt_succ _) rfl
theorem dX11_keep_9 : decode cX11_keep 9 = .ok (.ifCond .ne 5, 3) := dz1 (k := 9) (m := 3) dzc1_cX11_keep_0 di_239 (Nat.zero_lt_succ _) rfl
theorem dX11_keep_12 : decode cX11_keep 12 = .ok (.iconst (-1), 1) := dz1 (k := 12) (m := 1) dzc1_cX11_keep_0 di_65 (Nat.zero_lt_succ _) rfl
theorem dX11_keep_13 : decode cX11_keep 13 = .ok (.ireturn, 1) := dz1 (k := 13) (m := 1) dzc1_cX11_keep_0 di_13 (Nat.zero_lt_succ _) rfl
theorem dX11_keep_14 : decode cX11_keep 14 = .ok (.aload_n 0, 1) := dz1 (k := 14) (m := 1) dzc1_cX11_keep_0 di_0 (Nat.zero_lt_succ _) rfl
theorem dX11_keep_15 : decode cX11_keep 15 = .ok (.getfield 124, 3) := dz1 (k := 15) (m := 3) dzc1_cX11_keep_0 di_572 (Nat.zero_lt_succ _) rfl
theorem dX11_keep_18 : decode cX11_keep 18 = .ok (.ifCond .ne 6, 3) := dz1 (k := 18) (m := 3) dzc1_cX11_keep_0 di_308 (Nat.zero_lt_succ _) rfl
theorem dX11_keep_21 : decode cX11_keep 21 = .ok (.bipush (-4), 2) := dz1 (k := 21) (m := 2) dzc1_cX11_keep_0 di_264 (Nat.zero_lt_succ _) rfl
theorem dX11_keep_23 : decode cX11_keep 23 = .ok (.ireturn, 1) := dz1 (k := 23) (m := 1) dzc1_cX11_keep_0 di_13 (Nat.zero_lt_succ _) rfl
theorem dX11_keep_24 : decode cX11_keep 24 = .ok (.aload_n 0, 1) := dz1 (k := 24) (m := 1) dzc1_cX11_keep_0 di_0 (Nat.zero_lt_succ _) rfl
theorem dX11_keep_25 : decode cX11_keep 25 = .ok (.iconst 0, 1) := dz1 (k := 25) (m := 1) dzc1_cX11_keep_0 di_8 (Nat.zero_lt_succ _) rfl
theorem dX11_keep_26 : decode cX11_keep 26 = .ok (.sipush 328, 3) := dz1 (k := 26) (m := 3) dzc1_cX11_keep_0 di_614 (Nat.zero_lt_succ _) rfl
theorem dX11_keep_29 : decode cX11_keep 29 = .ok (.iload_n 1, 1) := dz1 (k := 29) (m := 1) dzc1_cX11_keep_0 di_11 (Nat.zero_lt_succ _) rfl
theorem dX11_keep_30 : decode cX11_keep 30 = .ok (.iconst 1, 1) := dz1 (k := 30) (m := 1) dzc1_cX11_keep_0 di_10 (Nat.zero_lt_succ _) rfl
theorem dX11_keep_31 : decode cX11_keep 31 = .ok (.iadd, 1) := dz1 (k := 31) (m := 1) dzc1_cX11_keep_0 di_24 (Nat.zero_lt_succ _) rfl
set_option maxRecDepth 100000 in
theorem dzc1_cX11_keep_32 : DzLies cX11_keep (.mk ⟨[0x68, 0x11, 0x01, 0x48, 0xb6, 0x00, 0xa0, 0x2a, 0xb4, 0x00, 0x29, 0x1b, 0x2a, 0xb4, 0x00, 0x7f, 0x4f, 0x2a, 0xb4, 0x00, 0x7f, 0xac]⟩) 32 := dz_lies (m := 22) (Nat.zero_lt_succ _) rfl
theorem dX11_keep_32 : decode cX11_keep 32 = .ok (.imul, 1) := dz1 (k := 0) (m := 1) dzc1_cX11_keep_32 di_113 (Nat.zero_lt_succ _) rfl
theorem dX11_keep_33 : decode cX11_keep 33 = .ok (.sipush 328, 3) := dz1 (k := 1) (m := 3) dzc1_cX11_keep_32 di_614 (Nat.zero_lt_succ _) rfl
theorem dX11_keep_36 : decode cX11_keep 36 = .ok (.invokevirtual 160, 3) := dz1 (k := 4) (m := 3) dzc1_cX11_keep_32 di_610 (Nat.zero_lt_succ _) rfl
theorem dX11_keep_39 : decode cX11_keep 39 = .ok (.aload_n 0, 1) := dz1 (k := 7) (m := 1) dzc1_cX11_keep_32 di_0 (Nat.zero_lt_succ _) rfl
theorem dX11_keep_40 : decode cX11_keep 40 = .ok (.getfield 41, 3) := dz1 (k := 8) (m := 3) dzc1_cX11_keep_32 di_517 (Nat.zero_lt_succ _) rfl
theorem dX11_keep_43 : decode cX11_keep 43 = .ok (.iload_n 1, 1) := dz1 (k := 11) (m := 1) dzc1_cX11_keep_32 di_11 (Nat.zero_lt_succ _) rfl
theorem dX11_keep_44 : decode cX11_keep 44 = .ok (.aload_n 0, 1) := dz1 (k := 12) (m := 1) dzc1_cX11_keep_32 di_0 (Nat.zero_lt_succ _) rfl
theorem dX11_keep_45 : decode cX11_keep 45 = .ok (.getfield 127, 3) := dz1 (k := 13) (m := 3) dzc1_cX11_keep_32 di_609 (Nat.zero_lt_succ _) rfl
theorem dX11_keep_48 : decode cX11_keep 48 = .ok (.iastore, 1) := dz1 (k := 16) (m := 1) dzc1_cX11_keep_32 di_22 (Nat.zero_lt_succ _) rfl
theorem dX11_keep_49 : decode cX11_keep 49 = .ok (.aload_n 0, 1) := dz1 (k := 17) (m := 1) dzc1_cX11_keep_32 di_0 (Nat.zero_lt_succ _) rfl
theorem dX11_keep_50 : decode cX11_keep 50 = .ok (.getfield 127, 3) := dz1 (k := 18) (m := 3) dzc1_cX11_keep_32 di_609 (Nat.zero_lt_succ _) rfl
theorem dX11_keep_53 : decode cX11_keep 53 = .ok (.ireturn, 1) := dz1 (k := 21) (m := 1) dzc1_cX11_keep_32 di_13 (Nat.zero_lt_succ _) rfl
set_option maxRecDepth 100000 in
theorem dzc1_cX11_on_0 : DzLies cX11_on (.mk ⟨[0x1b, 0x85, 0x09, 0x14, 0x00, 0xaa, 0xb8, 0x00, 0x45, 0x9a, 0x00, 0x05, 0x02, 0xac, 0x2a, 0xb4, 0x00, 0x29, 0x1b, 0x2e, 0x9c, 0x00, 0x09, 0x2a, 0x04, 0xb6, 0x00, 0x4f, 0xac, 0x2a, 0x11, 0x01, 0x48]⟩) 0 := dz_lies (m := 33) (Nat.zero_lt_succ _) rfl
theorem dX11_on_0 : decode cX11_on 0 = .ok (.iload_n 1, 1) := dz1 (k := 0) (m := 1) dzc1_cX11_on_0 di_11 (Nat.zero_lt_succ _) rfl
theorem dX11_on_1 : decode cX11_on 1 = .ok (.i2l, 1) := dz1 (k := 1) (m := 1) dzc1_cX11_on_0 di_250 (Nat.zero_lt_succ _) rfl
theorem dX11_on_2 : decode cX11_on 2 = .ok (.lconst 0, 1) := dz1 (k := 2) (m := 1) dzc1_cX11_on_0 di_246 (Nat.zero_lt_succ _) rfl
theorem dX11_on_3 : decode cX11_on 3 = .ok (.ldc2_w 170, 3) := dz1 (k := 3) (m := 3) dzc1_cX11_on_0 di_613 (Nat.zero_lt_succ _) rfl
theorem dX11_on_6 : decode cX11_on 6 = .ok (.invokestatic 69, 3) := dz1 (k := 6) (m := 3) dzc1_cX11_on_0 di_522 (Nat.zero_lt_succ _) rfl
theorem dX11_on_9 : decode cX11_on 9 = .ok (.ifCond .ne 5, 3) := dz1 (k := 9) (m := 3) dzc1_cX11_on_0 di_239 (Nat.zero_lt_succ _) rfl
theorem dX11_on_12 : decode cX11_on 12 = .ok (.iconst (-1), 1) := dz1 (k := 12) (m := 1) dzc1_cX11_on_0 di_65 (Nat.zero_lt_succ _) rfl
theorem dX11_on_13 : decode cX11_on 13 = .ok (.ireturn, 1) := dz1 (k := 13) (m := 1) dzc1_cX11_on_0 di_13 (Nat.zero_lt_succ _) rfl
theorem dX11_on_14 : decode cX11_on 14 = .ok (.aload_n 0, 1) := dz1 (k := 14) (m := 1) dzc1_cX11_on_0 di_0 (Nat.zero_lt_succ _) rfl
theorem dX11_on_15 : decode cX11_on 15 = .ok (.getfield 41, 3) := dz1 (k := 15) (m := 3) dzc1_cX11_on_0 di_517 (Nat.zero_lt_succ _) rfl
theorem dX11_on_18 : decode cX11_on 18 = .ok (.iload_n 1, 1) := dz1 (k := 18) (m := 1) dzc1_cX11_on_0 di_11 (Nat.zero_lt_succ _) rfl
theorem dX11_on_19 : decode cX11_on 19 = .ok (.iaload, 1) := dz1 (k := 19) (m := 1) dzc1_cX11_on_0 di_30 (Nat.zero_lt_succ _) rfl
theorem dX11_on_20 : decode cX11_on 20 = .ok (.ifCond .ge 9, 3) := dz1 (k := 20) (m := 3) dzc1_cX11_on_0 di_231 (Nat.zero_lt_succ _) rfl
theorem dX11_on_23 : decode cX11_on 23 = .ok (.aload_n 0, 1) := dz1 (k := 23) (m := 1) dzc1_cX11_on_0 di_0 (Nat.zero_lt_succ _) rfl
theorem dX11_on_24 : decode cX11_on 24 = .ok (.iconst 1, 1) := dz1 (k := 24) (m := 1) dzc1_cX11_on_0 di_10 (Nat.zero_lt_succ _) rfl
theorem dX11_on_25 : decode cX11_on 25 = .ok (.invokevirtual 79, 3) := dz1 (k := 25) (m := 3) dzc1_cX11_on_0 di_526 (Nat.zero_lt_succ _) rfl
theorem dX11_on_28 : decode cX11_on 28 = .ok (.ireturn, 1) := dz1 (k := 28) (m := 1) dzc1_cX11_on_0 di_13 (Nat.zero_lt_succ _) rfl
theorem dX11_on_29 : decode cX11_on 29 = .ok (.aload_n 0, 1) := dz1 (k := 29) (m := 1) dzc1_cX11_on_0 di_0 (Nat.zero_lt_succ _) rfl
theorem dX11_on_30 : decode cX11_on 30 = .ok (.sipush 328, 3) := dz1 (k := 30) (m := 3) dzc1_cX11_on_0 di_614 (Nat.zero_lt_succ _) rfl
set_option maxRecDepth 100000 in
theorem dzc1_cX11_on_32 : DzLies cX11_on (.mk ⟨[0x48, 0x1b, 0x04, 0x60, 0x68, 0x03, 0x11, 0x01, 0x48, 0xb6, 0x00, 0xa0, 0x2a, 0x2a, 0xb4, 0x00, 0x29, 0x1b, 0x2e, 0xb5, 0x00, 0x7f, 0x2a, 0xb4, 0x00, 0x7f, 0xac]⟩) 32 := dz_lies (m := 27) (Nat.zero_lt_succ _) rfl
theorem dX11_on_33 : decode cX11_on 33 = .ok (.iload_n 1, 1) := dz1 (k := 1) (m := 1) dzc1_cX11_on_32 di_11 (Nat.zero_lt_succ _) rfl
theorem dX11_on_34 : decode cX11_on 34 = .ok (.iconst 1, 1) := dz1 (k := 2) (m := 1) dzc1_cX11_on_32 di_10 (Nat.zero_lt_succ _) rfl
theorem dX11_on_35 : decode cX11_on 35 = .ok (.iadd, 1) := dz1 (k := 3) (m := 1) dzc1_cX11_on_32 di_24 (Nat.zero_lt_succ _) rfl
theorem dX11_on_36 : decode cX11_on 36 = .ok (.imul, 1) := dz1 (k := 4) (m := 1) dzc1_cX11_on_32 di_113 (Nat.zero_lt_succ _) rfl
theorem dX11_on_37 : decode cX11_on 37 = .ok (.iconst 0, 1) := dz1 (k := 5) (m := 1) dzc1_cX11_on_32 di_8 (Nat.zero_lt_succ _) rfl
theorem dX11_on_38 : decode cX11_on 38 = .ok (.sipush 328, 3) := dz1 (k := 6) (m := 3) dzc1_cX11_on_32 di_614 (Nat.zero_lt_succ _) rfl
theorem dX11_on_41 : decode cX11_on 41 = .ok (.invokevirtual 160, 3) := dz1 (k := 9) (m := 3) dzc1_cX11_on_32 di_610 (Nat.zero_lt_succ _) rfl
theorem dX11_on_44 : decode cX11_on 44 = .ok (.aload_n 0, 1) := dz1 (k := 12) (m := 1) dzc1_cX11_on_32 di_0 (Nat.zero_lt_succ _) rfl
theorem dX11_on_45 : decode cX11_on 45 = .ok (.aload_n 0, 1) := dz1 (k := 13) (m := 1) dzc1_cX11_on_32 di_0 (Nat.zero_lt_succ _) rfl
theorem dX11_on_46 : decode cX11_on 46 = .ok (.getfield 41, 3) := dz1 (k := 14) (m := 3) dzc1_cX11_on_32 di_517 (Nat.zero_lt_succ _) rfl
theorem dX11_on_49 : decode cX11_on 49 = .ok (.iload_n 1, 1) := dz1 (k := 17) (m := 1) dzc1_cX11_on_32 di_11 (Nat.zero_lt_succ _) rfl
theorem dX11_on_50 : decode cX11_on 50 = .ok (.iaload, 1) := dz1 (k := 18) (m := 1) dzc1_cX11_on_32 di_30 (Nat.zero_lt_succ _) rfl
theorem dX11_on_51 : decode cX11_on 51 = .ok (.putfield 127, 3) := dz1 (k := 19) (m := 3) dzc1_cX11_on_32 di_575 (Nat.zero_lt_succ _) rfl
theorem dX11_on_54 : decode cX11_on 54 = .ok (.aload_n 0, 1) := dz1 (k := 22) (m := 1) dzc1_cX11_on_32 di_0 (Nat.zero_lt_succ _) rfl
theorem dX11_on_55 : decode cX11_on 55 = .ok (.getfield 127, 3) := dz1 (k := 23) (m := 3) dzc1_cX11_on_32 di_609 (Nat.zero_lt_succ _) rfl
theorem dX11_on_58 : decode cX11_on 58 = .ok (.ireturn, 1) := dz1 (k := 26) (m := 1) dzc1_cX11_on_32 di_13 (Nat.zero_lt_succ _) rfl
set_option maxRecDepth 100000 in
theorem dzc1_cX11_hears_0 : DzLies cX11_hears (.mk ⟨[0x2a, 0x1b, 0xb6, 0x00, 0x98, 0x99, 0x00, 0x28, 0x1c, 0x85, 0x0a, 0x14, 0x00, 0x69, 0xb8, 0x00, 0x45, 0x99, 0x00, 0x1c, 0x1d, 0x85, 0x09, 0x14, 0x00, 0x69, 0xb8, 0x00, 0x45, 0x99, 0x00, 0x10]⟩) 0 := dz_lies (m := 32) (Nat.zero_lt_succ _) rfl
theorem dX11_hears_0 : decode cX11_hears 0 = .ok (.aload_n 0, 1) := dz1 (k := 0) (m := 1) dzc1_cX11_hears_0 di_0 (Nat.zero_lt_succ _) rfl
theorem dX11_hears_1 : decode cX11_hears 1 = .ok (.iload_n 1, 1) := dz1 (k := 1) (m := 1) dzc1_cX11_hears_0 di_11 (Nat.zero_lt_succ _) rfl
theorem dX11_hears_2 : decode cX11_hears 2 = .ok (.invokevirtual 152, 3) := dz1 (k := 2) (m := 3) dzc1_cX11_hears_0 di_600 (Nat.zero_lt_succ _) rfl
theorem dX11_hears_5 : decode cX11_hears 5 = .ok (.ifCond .eq 40, 3) := dz1 (k := 5) (m := 3) dzc1_cX11_hears_0 di_167 (Nat.zero_lt_succ _) rfl
theorem dX11_hears_8 : decode cX11_hears 8 = .ok (.iload_n 2, 1) := dz1 (k := 8) (m := 1) dzc1_cX11_hears_0 di_28 (Nat.zero_lt_succ _) rfl
theorem dX11_hears_9 : decode cX11_hears 9 = .ok (.i2l, 1) := dz1 (k := 9) (m := 1) dzc1_cX11_hears_0 di_250 (Nat.zero_lt_succ _) rfl
theorem dX11_hears_10 : decode cX11_hears 10 = .ok (.lconst 1, 1) := dz1 (k := 10) (m := 1) dzc1_cX11_hears_0 di_217 (Nat.zero_lt_succ _) rfl
theorem dX11_hears_11 : decode cX11_hears 11 = .ok (.ldc2_w 105, 3) := dz1 (k := 11) (m := 3) dzc1_cX11_hears_0 di_559 (Nat.zero_lt_succ _) rfl
theorem dX11_hears_14 : decode cX11_hears 14 = .ok (.invokestatic 69, 3) := dz1 (k := 14) (m := 3) dzc1_cX11_hears_0 di_522 (Nat.zero_lt_succ _) rfl
theorem dX11_hears_17 : decode cX11_hears 17 = .ok (.ifCond .eq 28, 3) := dz1 (k := 17) (m := 3) dzc1_cX11_hears_0 di_440 (Nat.zero_lt_succ _) rfl
theorem dX11_hears_20 : decode cX11_hears 20 = .ok (.iload_n 3, 1) := dz1 (k := 20) (m := 1) dzc1_cX11_hears_0 di_3 (Nat.zero_lt_succ _) rfl
theorem dX11_hears_21 : decode cX11_hears 21 = .ok (.i2l, 1) := dz1 (k := 21) (m := 1) dzc1_cX11_hears_0 di_250 (Nat.zero_lt_succ _) rfl
theorem dX11_hears_22 : decode cX11_hears 22 = .ok (.lconst 0, 1) := dz1 (k := 22) (m := 1) dzc1_cX11_hears_0 di_246 (Nat.zero_lt_succ _) rfl
theorem dX11_hears_23 : decode cX11_hears 23 = .ok (.ldc2_w 105, 3) := dz1 (k := 23) (m := 3) dzc1_cX11_hears_0 di_559 (Nat.zero_lt_succ _) rfl
theorem dX11_hears_26 : decode cX11_hears 26 = .ok (.invokestatic 69, 3) := dz1 (k := 26) (m := 3) dzc1_cX11_hears_0 di_522 (Nat.zero_lt_succ _) rfl
theorem dX11_hears_29 : decode cX11_hears 29 = .ok (.ifCond .eq 16, 3) := dz1 (k := 29) (m := 3) dzc1_cX11_hears_0 di_476 (Nat.zero_lt_succ _) rfl
set_option maxRecDepth 100000 in
theorem dzc1_cX11_hears_32 : DzLies cX11_hears (.mk ⟨[0x15, 0x04, 0x85, 0x09, 0x14, 0x00, 0xac, 0xb8, 0x00, 0x45, 0x9a, 0x00, 0x05, 0x02, 0xac, 0x2a, 0xb4, 0x00, 0x1a, 0x1b, 0x2e, 0x1c, 0x1d, 0x15, 0x04, 0xb8, 0x00, 0x8e, 0xac]⟩) 32 := dz_lies (m := 29) (Nat.zero_lt_succ _) rfl
theorem dX11_hears_32 : decode cX11_hears 32 = .ok (.iload 4, 2) := dz1 (k := 0) (m := 2) dzc1_cX11_hears_32 di_52 (Nat.zero_lt_succ _) rfl
theorem dX11_hears_34 : decode cX11_hears 34 = .ok (.i2l, 1) := dz1 (k := 2) (m := 1) dzc1_cX11_hears_32 di_250 (Nat.zero_lt_succ _) rfl
theorem dX11_hears_35 : decode cX11_hears 35 = .ok (.lconst 0, 1) := dz1 (k := 3) (m := 1) dzc1_cX11_hears_32 di_246 (Nat.zero_lt_succ _) rfl
theorem dX11_hears_36 : decode cX11_hears 36 = .ok (.ldc2_w 172, 3) := dz1 (k := 4) (m := 3) dzc1_cX11_hears_32 di_615 (Nat.zero_lt_succ _) rfl
theorem dX11_hears_39 : decode cX11_hears 39 = .ok (.invokestatic 69, 3) := dz1 (k := 7) (m := 3) dzc1_cX11_hears_32 di_522 (Nat.zero_lt_succ _) rfl
theorem dX11_hears_42 : decode cX11_hears 42 = .ok (.ifCond .ne 5, 3) := dz1 (k := 10) (m := 3) dzc1_cX11_hears_32 di_239 (Nat.zero_lt_succ _) rfl
theorem dX11_hears_45 : decode cX11_hears 45 = .ok (.iconst (-1), 1) := dz1 (k := 13) (m := 1) dzc1_cX11_hears_32 di_65 (Nat.zero_lt_succ _) rfl
theorem dX11_hears_46 : decode cX11_hears 46 = .ok (.ireturn, 1) := dz1 (k := 14) (m := 1) dzc1_cX11_hears_32 di_13 (Nat.zero_lt_succ _) rfl
theorem dX11_hears_47 : decode cX11_hears 47 = .ok (.aload_n 0, 1) := dz1 (k := 15) (m := 1) dzc1_cX11_hears_32 di_0 (Nat.zero_lt_succ _) rfl
theorem dX11_hears_48 : decode cX11_hears 48 = .ok (.getfield 26, 3) := dz1 (k := 16) (m := 3) dzc1_cX11_hears_32 di_573 (Nat.zero_lt_succ _) rfl
theorem dX11_hears_51 : decode cX11_hears 51 = .ok (.iload_n 1, 1) := dz1 (k := 19) (m := 1) dzc1_cX11_hears_32 di_11 (Nat.zero_lt_succ _) rfl
theorem dX11_hears_52 : decode cX11_hears 52 = .ok (.iaload, 1) := dz1 (k := 20) (m := 1) dzc1_cX11_hears_32 di_30 (Nat.zero_lt_succ _) rfl
theorem dX11_hears_53 : decode cX11_hears 53 = .ok (.iload_n 2, 1) := dz1 (k := 21) (m := 1) dzc1_cX11_hears_32 di_28 (Nat.zero_lt_succ _) rfl
theorem dX11_hears_54 : decode cX11_hears 54 = .ok (.iload_n 3, 1) := dz1 (k := 22) (m := 1) dzc1_cX11_hears_32 di_3 (Nat.zero_lt_succ _) rfl
theorem dX11_hears_55 : decode cX11_hears 55 = .ok (.iload 4, 2) := dz1 (k := 23) (m := 2) dzc1_cX11_hears_32 di_52 (Nat.zero_lt_succ _) rfl
theorem dX11_hears_57 : decode cX11_hears 57 = .ok (.invokestatic 142, 3) := dz1 (k := 25) (m := 3) dzc1_cX11_hears_32 di_590 (Nat.zero_lt_succ _) rfl
theorem dX11_hears_60 : decode cX11_hears 60 = .ok (.ireturn, 1) := dz1 (k := 28) (m := 1) dzc1_cX11_hears_32 di_13 (Nat.zero_lt_succ _) rfl
set_option maxRecDepth 100000 in
theorem dzc1_cX11_run_0 : DzLies cX11_run (.mk ⟨[0x2a, 0xb4, 0x00, 0x7c, 0x9a, 0x00, 0x06, 0x10, 0xfc, 0xac, 0x2a, 0x1b, 0xb6, 0x00, 0x4b, 0x9a, 0x00, 0x05, 0x02, 0xac, 0x2a, 0xb4, 0x00, 0x07, 0x1b, 0x2e, 0x9c, 0x00, 0x09, 0x2a, 0x04, 0xb6, 0x00, 0x4f]⟩) 0 := dz_lies (m := 34) (Nat.zero_lt_succ _) rfl
theorem dX11_run_0 : decode cX11_run 0 = .ok (.aload_n 0, 1) := dz1 (k := 0) (m := 1) dzc1_cX11_run_0 di_0 (Nat.zero_lt_succ _) rfl
theorem dX11_run_1 : decode cX11_run 1 = .ok (.getfield 124, 3) := dz1 (k := 1) (m := 3) dzc1_cX11_run_0 di_572 (Nat.zero_lt_succ _) rfl
theorem dX11_run_4 : decode cX11_run 4 = .ok (.ifCond .ne 6, 3) := dz1 (k := 4) (m := 3) dzc1_cX11_run_0 di_308 (Nat.zero_lt_succ _) rfl
theorem dX11_run_7 : decode cX11_run 7 = .ok (.bipush (-4), 2) := dz1 (k := 7) (m := 2) dzc1_cX11_run_0 di_264 (Nat.zero_lt_succ _) rfl
theorem dX11_run_9 : decode cX11_run 9 = .ok (.ireturn, 1) := dz1 (k := 9) (m := 1) dzc1_cX11_run_0 di_13 (Nat.zero_lt_succ _) rfl
theorem dX11_run_10 : decode cX11_run 10 = .ok (.aload_n 0, 1) := dz1 (k := 10) (m := 1) dzc1_cX11_run_0 di_0 (Nat.zero_lt_succ _) rfl
theorem dX11_run_11 : decode cX11_run 11 = .ok (.iload_n 1, 1) := dz1 (k := 11) (m := 1) dzc1_cX11_run_0 di_11 (Nat.zero_lt_succ _) rfl
theorem dX11_run_12 : decode cX11_run 12 = .ok (.invokevirtual 75, 3) := dz1 (k := 12) (m := 3) dzc1_cX11_run_0 di_525 (Nat.zero_lt_succ _) rfl
theorem dX11_run_15 : decode cX11_run 15 = .ok (.ifCond .ne 5, 3) := dz1 (k := 15) (m := 3) dzc1_cX11_run_0 di_239 (Nat.zero_lt_succ _) rfl
theorem dX11_run_18 : decode cX11_run 18 = .ok (.iconst (-1), 1) := dz1 (k := 18) (m := 1) dzc1_cX11_run_0 di_65 (Nat.zero_lt_succ _) rfl
theorem dX11_run_19 : decode cX11_run 19 = .ok (.ireturn, 1) := dz1 (k := 19) (m := 1) dzc1_cX11_run_0 di_13 (Nat.zero_lt_succ _) rfl
theorem dX11_run_20 : decode cX11_run 20 = .ok (.aload_n 0, 1) := dz1 (k := 20) (m := 1) dzc1_cX11_run_0 di_0 (Nat.zero_lt_succ _) rfl
theorem dX11_run_21 : decode cX11_run 21 = .ok (.getfield 7, 3) := dz1 (k := 21) (m := 3) dzc1_cX11_run_0 di_514 (Nat.zero_lt_succ _) rfl
theorem dX11_run_24 : decode cX11_run 24 = .ok (.iload_n 1, 1) := dz1 (k := 24) (m := 1) dzc1_cX11_run_0 di_11 (Nat.zero_lt_succ _) rfl
theorem dX11_run_25 : decode cX11_run 25 = .ok (.iaload, 1) := dz1 (k := 25) (m := 1) dzc1_cX11_run_0 di_30 (Nat.zero_lt_succ _) rfl
theorem dX11_run_26 : decode cX11_run 26 = .ok (.ifCond .ge 9, 3) := dz1 (k := 26) (m := 3) dzc1_cX11_run_0 di_231 (Nat.zero_lt_succ _) rfl
theorem dX11_run_29 : decode cX11_run 29 = .ok (.aload_n 0, 1) := dz1 (k := 29) (m := 1) dzc1_cX11_run_0 di_0 (Nat.zero_lt_succ _) rfl
theorem dX11_run_30 : decode cX11_run 30 = .ok (.iconst 1, 1) := dz1 (k := 30) (m := 1) dzc1_cX11_run_0 di_10 (Nat.zero_lt_succ _) rfl
theorem dX11_run_31 : decode cX11_run 31 = .ok (.invokevirtual 79, 3) := dz1 (k := 31) (m := 3) dzc1_cX11_run_0 di_526 (Nat.zero_lt_succ _) rfl
set_option maxRecDepth 100000 in
theorem dzc1_cX11_run_32 : DzLies cX11_run (.mk ⟨[0x00, 0x4f, 0xac, 0x2a, 0xb4, 0x00, 0x07, 0x1b, 0x2e, 0x10, 0x0c, 0xa4, 0x00, 0x09, 0x2a, 0x08, 0xb6, 0x00, 0x4f, 0xac, 0x03, 0x3d, 0x1c, 0x2a, 0xb4, 0x00, 0x07, 0x1b, 0x2e, 0xa2, 0x00, 0x25]⟩) 32 := dz_lies (m := 32) (Nat.zero_lt_succ _) rfl
theorem dX11_run_34 : decode cX11_run 34 = .ok (.ireturn, 1) := dz1 (k := 2) (m := 1) dzc1_cX11_run_32 di_13 (Nat.zero_lt_succ _) rfl
theorem dX11_run_35 : decode cX11_run 35 = .ok (.aload_n 0, 1) := dz1 (k := 3) (m := 1) dzc1_cX11_run_32 di_0 (Nat.zero_lt_succ _) rfl
theorem dX11_run_36 : decode cX11_run 36 = .ok (.getfield 7, 3) := dz1 (k := 4) (m := 3) dzc1_cX11_run_32 di_514 (Nat.zero_lt_succ _) rfl
theorem dX11_run_39 : decode cX11_run 39 = .ok (.iload_n 1, 1) := dz1 (k := 7) (m := 1) dzc1_cX11_run_32 di_11 (Nat.zero_lt_succ _) rfl
theorem dX11_run_40 : decode cX11_run 40 = .ok (.iaload, 1) := dz1 (k := 8) (m := 1) dzc1_cX11_run_32 di_30 (Nat.zero_lt_succ _) rfl
theorem dX11_run_41 : decode cX11_run 41 = .ok (.bipush 12, 2) := dz1 (k := 9) (m := 2) dzc1_cX11_run_32 di_126 (Nat.zero_lt_succ _) rfl
theorem dX11_run_43 : decode cX11_run 43 = .ok (.if_icmp .le 9, 3) := dz1 (k := 11) (m := 3) dzc1_cX11_run_32 di_324 (Nat.zero_lt_succ _) rfl
theorem dX11_run_46 : decode cX11_run 46 = .ok (.aload_n 0, 1) := dz1 (k := 14) (m := 1) dzc1_cX11_run_32 di_0 (Nat.zero_lt_succ _) rfl
theorem dX11_run_47 : decode cX11_run 47 = .ok (.iconst 5, 1) := dz1 (k := 15) (m := 1) dzc1_cX11_run_32 di_145 (Nat.zero_lt_succ _) rfl
theorem dX11_run_48 : decode cX11_run 48 = .ok (.invokevirtual 79, 3) := dz1 (k := 16) (m := 3) dzc1_cX11_run_32 di_526 (Nat.zero_lt_succ _) rfl
theorem dX11_run_51 : decode cX11_run 51 = .ok (.ireturn, 1) := dz1 (k := 19) (m := 1) dzc1_cX11_run_32 di_13 (Nat.zero_lt_succ _) rfl
theorem dX11_run_52 : decode cX11_run 52 = .ok (.iconst 0, 1) := dz1 (k := 20) (m := 1) dzc1_cX11_run_32 di_8 (Nat.zero_lt_succ _) rfl
theorem dX11_run_53 : decode cX11_run 53 = .ok (.istore_n 2, 1) := dz1 (k := 21) (m := 1) dzc1_cX11_run_32 di_27 (Nat.zero_lt_succ _) rfl
theorem dX11_run_54 : decode cX11_run 54 = .ok (.iload_n 2, 1) := dz1 (k := 22) (m := 1) dzc1_cX11_run_32 di_28 (Nat.zero_lt_succ _) rfl
theorem dX11_run_55 : decode cX11_run 55 = .ok (.aload_n 0, 1) := dz1 (k := 23) (m := 1) dzc1_cX11_run_32 di_0 (Nat.zero_lt_succ _) rfl
theorem dX11_run_56 : decode cX11_run 56 = .ok (.getfield 7, 3) := dz1 (k := 24) (m := 3) dzc1_cX11_run_32 di_514 (Nat.zero_lt_succ _) rfl
theorem dX11_run_59 : decode cX11_run 59 = .ok (.iload_n 1, 1) := dz1 (k := 27) (m := 1) dzc1_cX11_run_32 di_11 (Nat.zero_lt_succ _) rfl
theorem dX11_run_60 : decode cX11_run 60 = .ok (.iaload, 1) := dz1 (k := 28) (m := 1) dzc1_cX11_run_32 di_30 (Nat.zero_lt_succ _) rfl
theorem dX11_run_61 : decode cX11_run 61 = .ok (.if_icmp .ge 37, 3) := dz1 (k := 29) (m := 3) dzc1_cX11_run_32 di_549 (Nat.zero_lt_succ _) rfl
set_option maxRecDepth 100000 in
theorem dzc1_cX11_run_64 : DzLies cX11_run (.mk ⟨[0x2a, 0xb4, 0x00, 0x0d, 0x10, 0x28, 0x1b, 0x68, 0x1c, 0x60, 0x2e, 0x85, 0x0a, 0x14, 0x00, 0x69, 0xb8, 0x00, 0x45, 0x9a, 0x00, 0x09, 0x2a, 0x06, 0xb6, 0x00, 0x4f, 0xac, 0x84, 0x02, 0x01, 0xa7, 0xff, 0xd7]⟩) 64 := dz_lies (m := 34) (Nat.zero_lt_succ _) rfl
theorem dX11_run_64 : decode cX11_run 64 = .ok (.aload_n 0, 1) := dz1 (k := 0) (m := 1) dzc1_cX11_run_64 di_0 (Nat.zero_lt_succ _) rfl
theorem dX11_run_65 : decode cX11_run 65 = .ok (.getfield 13, 3) := dz1 (k := 1) (m := 3) dzc1_cX11_run_64 di_524 (Nat.zero_lt_succ _) rfl
theorem dX11_run_68 : decode cX11_run 68 = .ok (.bipush 40, 2) := dz1 (k := 4) (m := 2) dzc1_cX11_run_64 di_16 (Nat.zero_lt_succ _) rfl
theorem dX11_run_70 : decode cX11_run 70 = .ok (.iload_n 1, 1) := dz1 (k := 6) (m := 1) dzc1_cX11_run_64 di_11 (Nat.zero_lt_succ _) rfl
theorem dX11_run_71 : decode cX11_run 71 = .ok (.imul, 1) := dz1 (k := 7) (m := 1) dzc1_cX11_run_64 di_113 (Nat.zero_lt_succ _) rfl
theorem dX11_run_72 : decode cX11_run 72 = .ok (.iload_n 2, 1) := dz1 (k := 8) (m := 1) dzc1_cX11_run_64 di_28 (Nat.zero_lt_succ _) rfl
theorem dX11_run_73 : decode cX11_run 73 = .ok (.iadd, 1) := dz1 (k := 9) (m := 1) dzc1_cX11_run_64 di_24 (Nat.zero_lt_succ _) rfl
theorem dX11_run_74 : decode cX11_run 74 = .ok (.iaload, 1) := dz1 (k := 10) (m := 1) dzc1_cX11_run_64 di_30 (Nat.zero_lt_succ _) rfl
theorem dX11_run_75 : decode cX11_run 75 = .ok (.i2l, 1) := dz1 (k := 11) (m := 1) dzc1_cX11_run_64 di_250 (Nat.zero_lt_succ _) rfl
theorem dX11_run_76 : decode cX11_run 76 = .ok (.lconst 1, 1) := dz1 (k := 12) (m := 1) dzc1_cX11_run_64 di_217 (Nat.zero_lt_succ _) rfl
theorem dX11_run_77 : decode cX11_run 77 = .ok (.ldc2_w 105, 3) := dz1 (k := 13) (m := 3) dzc1_cX11_run_64 di_559 (Nat.zero_lt_succ _) rfl
theorem dX11_run_80 : decode cX11_run 80 = .ok (.invokestatic 69, 3) := dz1 (k := 16) (m := 3) dzc1_cX11_run_64 di_522 (Nat.zero_lt_succ _) rfl
theorem dX11_run_83 : decode cX11_run 83 = .ok (.ifCond .ne 9, 3) := dz1 (k := 19) (m := 3) dzc1_cX11_run_64 di_243 (Nat.zero_lt_succ _) rfl
theorem dX11_run_86 : decode cX11_run 86 = .ok (.aload_n 0, 1) := dz1 (k := 22) (m := 1) dzc1_cX11_run_64 di_0 (Nat.zero_lt_succ _) rfl
theorem dX11_run_87 : decode cX11_run 87 = .ok (.iconst 3, 1) := dz1 (k := 23) (m := 1) dzc1_cX11_run_64 di_4 (Nat.zero_lt_succ _) rfl
theorem dX11_run_88 : decode cX11_run 88 = .ok (.invokevirtual 79, 3) := dz1 (k := 24) (m := 3) dzc1_cX11_run_64 di_526 (Nat.zero_lt_succ _) rfl
theorem dX11_run_91 : decode cX11_run 91 = .ok (.ireturn, 1) := dz1 (k := 27) (m := 1) dzc1_cX11_run_64 di_13 (Nat.zero_lt_succ _) rfl
theorem dX11_run_92 : decode cX11_run 92 = .ok (.iinc 2 1, 3) := dz1 (k := 28) (m := 3) dzc1_cX11_run_64 di_31 (Nat.zero_lt_succ _) rfl
theorem dX11_run_95 : decode cX11_run 95 = .ok (.goto (-41), 3) := dz1 (k := 31) (m := 3) dzc1_cX11_run_64 di_124 (Nat.zero_lt_succ _) rfl
set_option maxRecDepth 100000 in
theorem dzc1_cX11_run_96 : DzLies cX11_run (.mk ⟨[0xff, 0xd7, 0x2a, 0x03, 0x11, 0x05, 0x20, 0x10, 0x08, 0xb6, 0x00, 0xa0, 0x03, 0x3d, 0x1c, 0x2a, 0xb4, 0x00, 0x07, 0x1b, 0x2e, 0xa2, 0x00, 0x35, 0x2a, 0xb4, 0x00, 0x26, 0x11, 0x05, 0x25, 0x2e]⟩) 96 := dz_lies (m := 32) (Nat.zero_lt_succ _) rfl
theorem dX11_run_98 : decode cX11_run 98 = .ok (.aload_n 0, 1) := dz1 (k := 2) (m := 1) dzc1_cX11_run_96 di_0 (Nat.zero_lt_succ _) rfl
theorem dX11_run_99 : decode cX11_run 99 = .ok (.iconst 0, 1) := dz1 (k := 3) (m := 1) dzc1_cX11_run_96 di_8 (Nat.zero_lt_succ _) rfl
theorem dX11_run_100 : decode cX11_run 100 = .ok (.sipush 1312, 3) := dz1 (k := 4) (m := 3) dzc1_cX11_run_96 di_616 (Nat.zero_lt_succ _) rfl
theorem dX11_run_103 : decode cX11_run 103 = .ok (.bipush 8, 2) := dz1 (k := 7) (m := 2) dzc1_cX11_run_96 di_184 (Nat.zero_lt_succ _) rfl
theorem dX11_run_105 : decode cX11_run 105 = .ok (.invokevirtual 160, 3) := dz1 (k := 9) (m := 3) dzc1_cX11_run_96 di_610 (Nat.zero_lt_succ _) rfl
theorem dX11_run_108 : decode cX11_run 108 = .ok (.iconst 0, 1) := dz1 (k := 12) (m := 1) dzc1_cX11_run_96 di_8 (Nat.zero_lt_succ _) rfl
theorem dX11_run_109 : decode cX11_run 109 = .ok (.istore_n 2, 1) := dz1 (k := 13) (m := 1) dzc1_cX11_run_96 di_27 (Nat.zero_lt_succ _) rfl
theorem dX11_run_110 : decode cX11_run 110 = .ok (.iload_n 2, 1) := dz1 (k := 14) (m := 1) dzc1_cX11_run_96 di_28 (Nat.zero_lt_succ _) rfl
theorem dX11_run_111 : decode cX11_run 111 = .ok (.aload_n 0, 1) := dz1 (k := 15) (m := 1) dzc1_cX11_run_96 di_0 (Nat.zero_lt_succ _) rfl
theorem dX11_run_112 : decode cX11_run 112 = .ok (.getfield 7, 3) := dz1 (k := 16) (m := 3) dzc1_cX11_run_96 di_514 (Nat.zero_lt_succ _) rfl
theorem dX11_run_115 : decode cX11_run 115 = .ok (.iload_n 1, 1) := dz1 (k := 19) (m := 1) dzc1_cX11_run_96 di_11 (Nat.zero_lt_succ _) rfl
theorem dX11_run_116 : decode cX11_run 116 = .ok (.iaload, 1) := dz1 (k := 20) (m := 1) dzc1_cX11_run_96 di_30 (Nat.zero_lt_succ _) rfl
theorem dX11_run_117 : decode cX11_run 117 = .ok (.if_icmp .ge 53, 3) := dz1 (k := 21) (m := 3) dzc1_cX11_run_96 di_617 (Nat.zero_lt_succ _) rfl
theorem dX11_run_120 : decode cX11_run 120 = .ok (.aload_n 0, 1) := dz1 (k := 24) (m := 1) dzc1_cX11_run_96 di_0 (Nat.zero_lt_succ _) rfl
theorem dX11_run_121 : decode cX11_run 121 = .ok (.getfield 38, 3) := dz1 (k := 25) (m := 3) dzc1_cX11_run_96 di_574 (Nat.zero_lt_succ _) rfl
theorem dX11_run_124 : decode cX11_run 124 = .ok (.sipush 1317, 3) := dz1 (k := 28) (m := 3) dzc1_cX11_run_96 di_618 (Nat.zero_lt_succ _) rfl
theorem dX11_run_127 : decode cX11_run 127 = .ok (.iaload, 1) := dz1 (k := 31) (m := 1) dzc1_cX11_run_96 di_30 (Nat.zero_lt_succ _) rfl
set_option maxRecDepth 100000 in
theorem dzc1_cX11_run_128 : DzLies cX11_run (.mk ⟨[0x2a, 0xb4, 0x00, 0x0d, 0x10, 0x28, 0x1b, 0x68, 0x1c, 0x60, 0x2e, 0xb8, 0x00, 0x8b, 0x99, 0x00, 0x1c, 0x2a, 0x11, 0x05, 0x20, 0x2a, 0xb4, 0x00, 0x0d, 0x10, 0x28, 0x1b, 0x68, 0x1c, 0x60, 0x2e]⟩) 128 := dz_lies (m := 32) (Nat.zero_lt_succ _) rfl
theorem dX11_run_128 : decode cX11_run 128 = .ok (.aload_n 0, 1) := dz1 (k := 0) (m := 1) dzc1_cX11_run_128 di_0 (Nat.zero_lt_succ _) rfl
theorem dX11_run_129 : decode cX11_run 129 = .ok (.getfield 13, 3) := dz1 (k := 1) (m := 3) dzc1_cX11_run_128 di_524 (Nat.zero_lt_succ _) rfl
theorem dX11_run_132 : decode cX11_run 132 = .ok (.bipush 40, 2) := dz1 (k := 4) (m := 2) dzc1_cX11_run_128 di_16 (Nat.zero_lt_succ _) rfl
theorem dX11_run_134 : decode cX11_run 134 = .ok (.iload_n 1, 1) := dz1 (k := 6) (m := 1) dzc1_cX11_run_128 di_11 (Nat.zero_lt_succ _) rfl
theorem dX11_run_135 : decode cX11_run 135 = .ok (.imul, 1) := dz1 (k := 7) (m := 1) dzc1_cX11_run_128 di_113 (Nat.zero_lt_succ _) rfl
theorem dX11_run_136 : decode cX11_run 136 = .ok (.iload_n 2, 1) := dz1 (k := 8) (m := 1) dzc1_cX11_run_128 di_28 (Nat.zero_lt_succ _) rfl
theorem dX11_run_137 : decode cX11_run 137 = .ok (.iadd, 1) := dz1 (k := 9) (m := 1) dzc1_cX11_run_128 di_24 (Nat.zero_lt_succ _) rfl
theorem dX11_run_138 : decode cX11_run 138 = .ok (.iaload, 1) := dz1 (k := 10) (m := 1) dzc1_cX11_run_128 di_30 (Nat.zero_lt_succ _) rfl
theorem dX11_run_139 : decode cX11_run 139 = .ok (.invokestatic 139, 3) := dz1 (k := 11) (m := 3) dzc1_cX11_run_128 di_587 (Nat.zero_lt_succ _) rfl
theorem dX11_run_142 : decode cX11_run 142 = .ok (.ifCond .eq 28, 3) := dz1 (k := 14) (m := 3) dzc1_cX11_run_128 di_440 (Nat.zero_lt_succ _) rfl
theorem dX11_run_145 : decode cX11_run 145 = .ok (.aload_n 0, 1) := dz1 (k := 17) (m := 1) dzc1_cX11_run_128 di_0 (Nat.zero_lt_succ _) rfl
theorem dX11_run_146 : decode cX11_run 146 = .ok (.sipush 1312, 3) := dz1 (k := 18) (m := 3) dzc1_cX11_run_128 di_616 (Nat.zero_lt_succ _) rfl
theorem dX11_run_149 : decode cX11_run 149 = .ok (.aload_n 0, 1) := dz1 (k := 21) (m := 1) dzc1_cX11_run_128 di_0 (Nat.zero_lt_succ _) rfl
theorem dX11_run_150 : decode cX11_run 150 = .ok (.getfield 13, 3) := dz1 (k := 22) (m := 3) dzc1_cX11_run_128 di_524 (Nat.zero_lt_succ _) rfl
theorem dX11_run_153 : decode cX11_run 153 = .ok (.bipush 40, 2) := dz1 (k := 25) (m := 2) dzc1_cX11_run_128 di_16 (Nat.zero_lt_succ _) rfl
theorem dX11_run_155 : decode cX11_run 155 = .ok (.iload_n 1, 1) := dz1 (k := 27) (m := 1) dzc1_cX11_run_128 di_11 (Nat.zero_lt_succ _) rfl
theorem dX11_run_156 : decode cX11_run 156 = .ok (.imul, 1) := dz1 (k := 28) (m := 1) dzc1_cX11_run_128 di_113 (Nat.zero_lt_succ _) rfl
theorem dX11_run_157 : decode cX11_run 157 = .ok (.iload_n 2, 1) := dz1 (k := 29) (m := 1) dzc1_cX11_run_128 di_28 (Nat.zero_lt_succ _) rfl
theorem dX11_run_158 : decode cX11_run 158 = .ok (.iadd, 1) := dz1 (k := 30) (m := 1) dzc1_cX11_run_128 di_24 (Nat.zero_lt_succ _) rfl
theorem dX11_run_159 : decode cX11_run 159 = .ok (.iaload, 1) := dz1 (k := 31) (m := 1) dzc1_cX11_run_128 di_30 (Nat.zero_lt_succ _) rfl
set_option maxRecDepth 100000 in
theorem dzc1_cX11_run_160 : DzLies cX11_run (.mk ⟨[0xb6, 0x00, 0xa7, 0x57, 0x84, 0x02, 0x01, 0xa7, 0xff, 0xc7, 0x2a, 0x1c, 0xb5, 0x00, 0x40, 0x2a, 0xb4, 0x00, 0x26, 0x11, 0x05, 0x24, 0x2e, 0xac]⟩) 160 := dz_lies (m := 24) (Nat.zero_lt_succ _) rfl
theorem dX11_run_160 : decode cX11_run 160 = .ok (.invokevirtual 167, 3) := dz1 (k := 0) (m := 3) dzc1_cX11_run_160 di_295 (Nat.zero_lt_succ _) rfl
theorem dX11_run_163 : decode cX11_run 163 = .ok (.pop, 1) := dz1 (k := 3) (m := 1) dzc1_cX11_run_160 di_331 (Nat.zero_lt_succ _) rfl
theorem dX11_run_164 : decode cX11_run 164 = .ok (.iinc 2 1, 3) := dz1 (k := 4) (m := 3) dzc1_cX11_run_160 di_31 (Nat.zero_lt_succ _) rfl
theorem dX11_run_167 : decode cX11_run 167 = .ok (.goto (-57), 3) := dz1 (k := 7) (m := 3) dzc1_cX11_run_160 di_619 (Nat.zero_lt_succ _) rfl
theorem dX11_run_170 : decode cX11_run 170 = .ok (.aload_n 0, 1) := dz1 (k := 10) (m := 1) dzc1_cX11_run_160 di_0 (Nat.zero_lt_succ _) rfl
theorem dX11_run_171 : decode cX11_run 171 = .ok (.iload_n 2, 1) := dz1 (k := 11) (m := 1) dzc1_cX11_run_160 di_28 (Nat.zero_lt_succ _) rfl
theorem dX11_run_172 : decode cX11_run 172 = .ok (.putfield 64, 3) := dz1 (k := 12) (m := 3) dzc1_cX11_run_160 di_215 (Nat.zero_lt_succ _) rfl
theorem dX11_run_175 : decode cX11_run 175 = .ok (.aload_n 0, 1) := dz1 (k := 15) (m := 1) dzc1_cX11_run_160 di_0 (Nat.zero_lt_succ _) rfl
theorem dX11_run_176 : decode cX11_run 176 = .ok (.getfield 38, 3) := dz1 (k := 16) (m := 3) dzc1_cX11_run_160 di_574 (Nat.zero_lt_succ _) rfl
theorem dX11_run_179 : decode cX11_run 179 = .ok (.sipush 1316, 3) := dz1 (k := 19) (m := 3) dzc1_cX11_run_160 di_620 (Nat.zero_lt_succ _) rfl
theorem dX11_run_182 : decode cX11_run 182 = .ok (.iaload, 1) := dz1 (k := 22) (m := 1) dzc1_cX11_run_160 di_30 (Nat.zero_lt_succ _) rfl
theorem dX11_run_183 : decode cX11_run 183 = .ok (.ireturn, 1) := dz1 (k := 23) (m := 1) dzc1_cX11_run_160 di_13 (Nat.zero_lt_succ _) rfl
set_option maxRecDepth 100000 in
theorem dzc1_cX11_safe_0 : DzLies cX11_safe (.mk ⟨[0x2a, 0xb4, 0x00, 0x7c, 0x9a, 0x00, 0x06, 0x10, 0xfc, 0xac, 0x03, 0x3c, 0x03, 0x3d, 0x03, 0x3e, 0x04, 0x36, 0x04, 0x15, 0x04, 0x10, 0x0d, 0xa2, 0x00, 0x63, 0x2a, 0xb4, 0x00, 0x26, 0x08, 0x2e]⟩) 0 := dz_lies (m := 32) (Nat.zero_lt_succ _) rfl
theorem dX11_safe_0 : decode cX11_safe 0 = .ok (.aload_n 0, 1) := dz1 (k := 0) (m := 1) dzc1_cX11_safe_0 di_0 (Nat.zero_lt_succ _) rfl
theorem dX11_safe_1 : decode cX11_safe 1 = .ok (.getfield 124, 3) := dz1 (k := 1) (m := 3) dzc1_cX11_safe_0 di_572 (Nat.zero_lt_succ _) rfl
theorem dX11_safe_4 : decode cX11_safe 4 = .ok (.ifCond .ne 6, 3) := dz1 (k := 4) (m := 3) dzc1_cX11_safe_0 di_308 (Nat.zero_lt_succ _) rfl
theorem dX11_safe_7 : decode cX11_safe 7 = .ok (.bipush (-4), 2) := dz1 (k := 7) (m := 2) dzc1_cX11_safe_0 di_264 (Nat.zero_lt_succ _) rfl
theorem dX11_safe_9 : decode cX11_safe 9 = .ok (.ireturn, 1) := dz1 (k := 9) (m := 1) dzc1_cX11_safe_0 di_13 (Nat.zero_lt_succ _) rfl
theorem dX11_safe_10 : decode cX11_safe 10 = .ok (.iconst 0, 1) := dz1 (k := 10) (m := 1) dzc1_cX11_safe_0 di_8 (Nat.zero_lt_succ _) rfl
theorem dX11_safe_11 : decode cX11_safe 11 = .ok (.istore_n 1, 1) := dz1 (k := 11) (m := 1) dzc1_cX11_safe_0 di_68 (Nat.zero_lt_succ _) rfl
theorem dX11_safe_12 : decode cX11_safe 12 = .ok (.iconst 0, 1) := dz1 (k := 12) (m := 1) dzc1_cX11_safe_0 di_8 (Nat.zero_lt_succ _) rfl
theorem dX11_safe_13 : decode cX11_safe 13 = .ok (.istore_n 2, 1) := dz1 (k := 13) (m := 1) dzc1_cX11_safe_0 di_27 (Nat.zero_lt_succ _) rfl
theorem dX11_safe_14 : decode cX11_safe 14 = .ok (.iconst 0, 1) := dz1 (k := 14) (m := 1) dzc1_cX11_safe_0 di_8 (Nat.zero_lt_succ _) rfl
theorem dX11_safe_15 : decode cX11_safe 15 = .ok (.istore_n 3, 1) := dz1 (k := 15) (m := 1) dzc1_cX11_safe_0 di_50 (Nat.zero_lt_succ _) rfl
theorem dX11_safe_16 : decode cX11_safe 16 = .ok (.iconst 1, 1) := dz1 (k := 16) (m := 1) dzc1_cX11_safe_0 di_10 (Nat.zero_lt_succ _) rfl
theorem dX11_safe_17 : decode cX11_safe 17 = .ok (.istore 4, 2) := dz1 (k := 17) (m := 2) dzc1_cX11_safe_0 di_51 (Nat.zero_lt_succ _) rfl
theorem dX11_safe_19 : decode cX11_safe 19 = .ok (.iload 4, 2) := dz1 (k := 19) (m := 2) dzc1_cX11_safe_0 di_52 (Nat.zero_lt_succ _) rfl
theorem dX11_safe_21 : decode cX11_safe 21 = .ok (.bipush 13, 2) := dz1 (k := 21) (m := 2) dzc1_cX11_safe_0 di_621 (Nat.zero_lt_succ _) rfl
theorem dX11_safe_23 : decode cX11_safe 23 = .ok (.if_icmp .ge 99, 3) := dz1 (k := 23) (m := 3) dzc1_cX11_safe_0 di_622 (Nat.zero_lt_succ _) rfl
theorem dX11_safe_26 : decode cX11_safe 26 = .ok (.aload_n 0, 1) := dz1 (k := 26) (m := 1) dzc1_cX11_safe_0 di_0 (Nat.zero_lt_succ _) rfl
theorem dX11_safe_27 : decode cX11_safe 27 = .ok (.getfield 38, 3) := dz1 (k := 27) (m := 3) dzc1_cX11_safe_0 di_574 (Nat.zero_lt_succ _) rfl
theorem dX11_safe_30 : decode cX11_safe 30 = .ok (.iconst 5, 1) := dz1 (k := 30) (m := 1) dzc1_cX11_safe_0 di_145 (Nat.zero_lt_succ _) rfl
theorem dX11_safe_31 : decode cX11_safe 31 = .ok (.iaload, 1) := dz1 (k := 31) (m := 1) dzc1_cX11_safe_0 di_30 (Nat.zero_lt_succ _) rfl
set_option maxRecDepth 100000 in
theorem dzc1_cX11_safe_32 : DzLies cX11_safe (.mk ⟨[0x15, 0x04, 0xb8, 0x00, 0x8b, 0x99, 0x00, 0x4f, 0x2a, 0x03, 0x11, 0x05, 0x20, 0x10, 0x08, 0xb6, 0x00, 0xa0, 0x2a, 0x11, 0x05, 0x20, 0x15, 0x04, 0xb6, 0x00, 0xa7, 0xb8, 0x00, 0x85, 0x36, 0x05]⟩) 32 := dz_lies (m := 32) (Nat.zero_lt_succ _) rfl
theorem dX11_safe_32 : decode cX11_safe 32 = .ok (.iload 4, 2) := dz1 (k := 0) (m := 2) dzc1_cX11_safe_32 di_52 (Nat.zero_lt_succ _) rfl
theorem dX11_safe_34 : decode cX11_safe 34 = .ok (.invokestatic 139, 3) := dz1 (k := 2) (m := 3) dzc1_cX11_safe_32 di_587 (Nat.zero_lt_succ _) rfl
theorem dX11_safe_37 : decode cX11_safe 37 = .ok (.ifCond .eq 79, 3) := dz1 (k := 5) (m := 3) dzc1_cX11_safe_32 di_623 (Nat.zero_lt_succ _) rfl
theorem dX11_safe_40 : decode cX11_safe 40 = .ok (.aload_n 0, 1) := dz1 (k := 8) (m := 1) dzc1_cX11_safe_32 di_0 (Nat.zero_lt_succ _) rfl
theorem dX11_safe_41 : decode cX11_safe 41 = .ok (.iconst 0, 1) := dz1 (k := 9) (m := 1) dzc1_cX11_safe_32 di_8 (Nat.zero_lt_succ _) rfl
theorem dX11_safe_42 : decode cX11_safe 42 = .ok (.sipush 1312, 3) := dz1 (k := 10) (m := 3) dzc1_cX11_safe_32 di_616 (Nat.zero_lt_succ _) rfl
theorem dX11_safe_45 : decode cX11_safe 45 = .ok (.bipush 8, 2) := dz1 (k := 13) (m := 2) dzc1_cX11_safe_32 di_184 (Nat.zero_lt_succ _) rfl
theorem dX11_safe_47 : decode cX11_safe 47 = .ok (.invokevirtual 160, 3) := dz1 (k := 15) (m := 3) dzc1_cX11_safe_32 di_610 (Nat.zero_lt_succ _) rfl
theorem dX11_safe_50 : decode cX11_safe 50 = .ok (.aload_n 0, 1) := dz1 (k := 18) (m := 1) dzc1_cX11_safe_32 di_0 (Nat.zero_lt_succ _) rfl
theorem dX11_safe_51 : decode cX11_safe 51 = .ok (.sipush 1312, 3) := dz1 (k := 19) (m := 3) dzc1_cX11_safe_32 di_616 (Nat.zero_lt_succ _) rfl
theorem dX11_safe_54 : decode cX11_safe 54 = .ok (.iload 4, 2) := dz1 (k := 22) (m := 2) dzc1_cX11_safe_32 di_52 (Nat.zero_lt_succ _) rfl
theorem dX11_safe_56 : decode cX11_safe 56 = .ok (.invokevirtual 167, 3) := dz1 (k := 24) (m := 3) dzc1_cX11_safe_32 di_295 (Nat.zero_lt_succ _) rfl
theorem dX11_safe_59 : decode cX11_safe 59 = .ok (.invokestatic 133, 3) := dz1 (k := 27) (m := 3) dzc1_cX11_safe_32 di_582 (Nat.zero_lt_succ _) rfl
theorem dX11_safe_62 : decode cX11_safe 62 = .ok (.istore 5, 2) := dz1 (k := 30) (m := 2) dzc1_cX11_safe_32 di_100 (Nat.zero_lt_succ _) rfl
set_option maxRecDepth 100000 in
theorem dzc1_cX11_safe_64 : DzLies cX11_safe (.mk ⟨[0x1b, 0x15, 0x05, 0x9a, 0x00, 0x0a, 0x04, 0x15, 0x04, 0x78, 0xa7, 0x00, 0x04, 0x03, 0x80, 0x3c, 0x15, 0x05, 0x1d, 0xa4, 0x00, 0x07, 0x03, 0xa7, 0x00, 0x04, 0x1c, 0x3d, 0x1c, 0x15, 0x05, 0x1d]⟩) 64 := dz_lies (m := 32) (Nat.zero_lt_succ _) rfl
theorem dX11_safe_64 : decode cX11_safe 64 = .ok (.iload_n 1, 1) := dz1 (k := 0) (m := 1) dzc1_cX11_safe_64 di_11 (Nat.zero_lt_succ _) rfl
theorem dX11_safe_65 : decode cX11_safe 65 = .ok (.iload 5, 2) := dz1 (k := 1) (m := 2) dzc1_cX11_safe_64 di_101 (Nat.zero_lt_succ _) rfl
theorem dX11_safe_67 : decode cX11_safe 67 = .ok (.ifCond .ne 10, 3) := dz1 (k := 3) (m := 3) dzc1_cX11_safe_64 di_338 (Nat.zero_lt_succ _) rfl
theorem dX11_safe_70 : decode cX11_safe 70 = .ok (.iconst 1, 1) := dz1 (k := 6) (m := 1) dzc1_cX11_safe_64 di_10 (Nat.zero_lt_succ _) rfl
theorem dX11_safe_71 : decode cX11_safe 71 = .ok (.iload 4, 2) := dz1 (k := 7) (m := 2) dzc1_cX11_safe_64 di_52 (Nat.zero_lt_succ _) rfl
theorem dX11_safe_73 : decode cX11_safe 73 = .ok (.ishl, 1) := dz1 (k := 9) (m := 1) dzc1_cX11_safe_64 di_12 (Nat.zero_lt_succ _) rfl
theorem dX11_safe_74 : decode cX11_safe 74 = .ok (.goto 4, 3) := dz1 (k := 10) (m := 3) dzc1_cX11_safe_64 di_49 (Nat.zero_lt_succ _) rfl
theorem dX11_safe_77 : decode cX11_safe 77 = .ok (.iconst 0, 1) := dz1 (k := 13) (m := 1) dzc1_cX11_safe_64 di_8 (Nat.zero_lt_succ _) rfl
theorem dX11_safe_78 : decode cX11_safe 78 = .ok (.ior, 1) := dz1 (k := 14) (m := 1) dzc1_cX11_safe_64 di_62 (Nat.zero_lt_succ _) rfl
theorem dX11_safe_79 : decode cX11_safe 79 = .ok (.istore_n 1, 1) := dz1 (k := 15) (m := 1) dzc1_cX11_safe_64 di_68 (Nat.zero_lt_succ _) rfl
theorem dX11_safe_80 : decode cX11_safe 80 = .ok (.iload 5, 2) := dz1 (k := 16) (m := 2) dzc1_cX11_safe_64 di_101 (Nat.zero_lt_succ _) rfl
theorem dX11_safe_82 : decode cX11_safe 82 = .ok (.iload_n 3, 1) := dz1 (k := 18) (m := 1) dzc1_cX11_safe_64 di_3 (Nat.zero_lt_succ _) rfl
theorem dX11_safe_83 : decode cX11_safe 83 = .ok (.if_icmp .le 7, 3) := dz1 (k := 19) (m := 3) dzc1_cX11_safe_64 di_606 (Nat.zero_lt_succ _) rfl
theorem dX11_safe_86 : decode cX11_safe 86 = .ok (.iconst 0, 1) := dz1 (k := 22) (m := 1) dzc1_cX11_safe_64 di_8 (Nat.zero_lt_succ _) rfl
theorem dX11_safe_87 : decode cX11_safe 87 = .ok (.goto 4, 3) := dz1 (k := 23) (m := 3) dzc1_cX11_safe_64 di_49 (Nat.zero_lt_succ _) rfl
theorem dX11_safe_90 : decode cX11_safe 90 = .ok (.iload_n 2, 1) := dz1 (k := 26) (m := 1) dzc1_cX11_safe_64 di_28 (Nat.zero_lt_succ _) rfl
theorem dX11_safe_91 : decode cX11_safe 91 = .ok (.istore_n 2, 1) := dz1 (k := 27) (m := 1) dzc1_cX11_safe_64 di_27 (Nat.zero_lt_succ _) rfl
theorem dX11_safe_92 : decode cX11_safe 92 = .ok (.iload_n 2, 1) := dz1 (k := 28) (m := 1) dzc1_cX11_safe_64 di_28 (Nat.zero_lt_succ _) rfl
theorem dX11_safe_93 : decode cX11_safe 93 = .ok (.iload 5, 2) := dz1 (k := 29) (m := 2) dzc1_cX11_safe_64 di_101 (Nat.zero_lt_succ _) rfl
theorem dX11_safe_95 : decode cX11_safe 95 = .ok (.iload_n 3, 1) := dz1 (k := 31) (m := 1) dzc1_cX11_safe_64 di_3 (Nat.zero_lt_succ _) rfl
set_option maxRecDepth 100000 in
theorem dzc1_cX11_safe_96 : DzLies cX11_safe (.mk ⟨[0xa1, 0x00, 0x0a, 0x04, 0x15, 0x04, 0x78, 0xa7, 0x00, 0x04, 0x03, 0x80, 0x3d, 0x1d, 0x15, 0x05, 0xb8, 0x00, 0x88, 0x3e, 0x84, 0x04, 0x01, 0xa7, 0xff, 0x9c, 0x2a, 0x1c, 0xb5, 0x00, 0x40, 0x1b]⟩) 96 := dz_lies (m := 32) (Nat.zero_lt_succ _) rfl
theorem dX11_safe_96 : decode cX11_safe 96 = .ok (.if_icmp .lt 10, 3) := dz1 (k := 0) (m := 3) dzc1_cX11_safe_96 di_437 (Nat.zero_lt_succ _) rfl
theorem dX11_safe_99 : decode cX11_safe 99 = .ok (.iconst 1, 1) := dz1 (k := 3) (m := 1) dzc1_cX11_safe_96 di_10 (Nat.zero_lt_succ _) rfl
theorem dX11_safe_100 : decode cX11_safe 100 = .ok (.iload 4, 2) := dz1 (k := 4) (m := 2) dzc1_cX11_safe_96 di_52 (Nat.zero_lt_succ _) rfl
theorem dX11_safe_102 : decode cX11_safe 102 = .ok (.ishl, 1) := dz1 (k := 6) (m := 1) dzc1_cX11_safe_96 di_12 (Nat.zero_lt_succ _) rfl
theorem dX11_safe_103 : decode cX11_safe 103 = .ok (.goto 4, 3) := dz1 (k := 7) (m := 3) dzc1_cX11_safe_96 di_49 (Nat.zero_lt_succ _) rfl
theorem dX11_safe_106 : decode cX11_safe 106 = .ok (.iconst 0, 1) := dz1 (k := 10) (m := 1) dzc1_cX11_safe_96 di_8 (Nat.zero_lt_succ _) rfl
theorem dX11_safe_107 : decode cX11_safe 107 = .ok (.ior, 1) := dz1 (k := 11) (m := 1) dzc1_cX11_safe_96 di_62 (Nat.zero_lt_succ _) rfl
theorem dX11_safe_108 : decode cX11_safe 108 = .ok (.istore_n 2, 1) := dz1 (k := 12) (m := 1) dzc1_cX11_safe_96 di_27 (Nat.zero_lt_succ _) rfl
theorem dX11_safe_109 : decode cX11_safe 109 = .ok (.iload_n 3, 1) := dz1 (k := 13) (m := 1) dzc1_cX11_safe_96 di_3 (Nat.zero_lt_succ _) rfl
theorem dX11_safe_110 : decode cX11_safe 110 = .ok (.iload 5, 2) := dz1 (k := 14) (m := 2) dzc1_cX11_safe_96 di_101 (Nat.zero_lt_succ _) rfl
theorem dX11_safe_112 : decode cX11_safe 112 = .ok (.invokestatic 136, 3) := dz1 (k := 16) (m := 3) dzc1_cX11_safe_96 di_583 (Nat.zero_lt_succ _) rfl
theorem dX11_safe_115 : decode cX11_safe 115 = .ok (.istore_n 3, 1) := dz1 (k := 19) (m := 1) dzc1_cX11_safe_96 di_50 (Nat.zero_lt_succ _) rfl
theorem dX11_safe_116 : decode cX11_safe 116 = .ok (.iinc 4 1, 3) := dz1 (k := 20) (m := 3) dzc1_cX11_safe_96 di_63 (Nat.zero_lt_succ _) rfl
theorem dX11_safe_119 : decode cX11_safe 119 = .ok (.goto (-100), 3) := dz1 (k := 23) (m := 3) dzc1_cX11_safe_96 di_624 (Nat.zero_lt_succ _) rfl
theorem dX11_safe_122 : decode cX11_safe 122 = .ok (.aload_n 0, 1) := dz1 (k := 26) (m := 1) dzc1_cX11_safe_96 di_0 (Nat.zero_lt_succ _) rfl
theorem dX11_safe_123 : decode cX11_safe 123 = .ok (.iload_n 2, 1) := dz1 (k := 27) (m := 1) dzc1_cX11_safe_96 di_28 (Nat.zero_lt_succ _) rfl
theorem dX11_safe_124 : decode cX11_safe 124 = .ok (.putfield 64, 3) := dz1 (k := 28) (m := 3) dzc1_cX11_safe_96 di_215 (Nat.zero_lt_succ _) rfl
theorem dX11_safe_127 : decode cX11_safe 127 = .ok (.iload_n 1, 1) := dz1 (k := 31) (m := 1) dzc1_cX11_safe_96 di_11 (Nat.zero_lt_succ _) rfl
set_option maxRecDepth 100000 in
theorem dzc1_cX11_safe_128 : DzLies cX11_safe (.mk ⟨[0xac]⟩) 128 := dz_lies (m := 1) (Nat.zero_lt_succ _) rfl
theorem dX11_safe_128 : decode cX11_safe 128 = .ok (.ireturn, 1) := dz1 (k := 0) (m := 1) dzc1_cX11_safe_128 di_13 (Nat.zero_lt_succ _) rfl
set_option maxRecDepth 100000 in
theorem dzc1_cX11_follows_0 : DzLies cX11_follows (.mk ⟨[0x1c, 0x99, 0x00, 0x07, 0x03, 0xa7, 0x00, 0x06, 0x1b, 0x04, 0x64, 0x3e, 0x1c, 0x99, 0x00, 0x14, 0x2a, 0x03, 0x11, 0x05, 0x20, 0x10, 0x08, 0xb6, 0x00, 0xa0, 0x2a, 0xb4, 0x00, 0x33, 0x03, 0x03]⟩) 0 := dz_lies (m := 32) (Nat.zero_lt_succ _) rfl
theorem dX11_follows_0 : decode cX11_follows 0 = .ok (.iload_n 2, 1) := dz1 (k := 0) (m := 1) dzc1_cX11_follows_0 di_28 (Nat.zero_lt_succ _) rfl
theorem dX11_follows_1 : decode cX11_follows 1 = .ok (.ifCond .eq 7, 3) := dz1 (k := 1) (m := 3) dzc1_cX11_follows_0 di_608 (Nat.zero_lt_succ _) rfl
theorem dX11_follows_4 : decode cX11_follows 4 = .ok (.iconst 0, 1) := dz1 (k := 4) (m := 1) dzc1_cX11_follows_0 di_8 (Nat.zero_lt_succ _) rfl
theorem dX11_follows_5 : decode cX11_follows 5 = .ok (.goto 6, 3) := dz1 (k := 5) (m := 3) dzc1_cX11_follows_0 di_9 (Nat.zero_lt_succ _) rfl
theorem dX11_follows_8 : decode cX11_follows 8 = .ok (.iload_n 1, 1) := dz1 (k := 8) (m := 1) dzc1_cX11_follows_0 di_11 (Nat.zero_lt_succ _) rfl
theorem dX11_follows_9 : decode cX11_follows 9 = .ok (.iconst 1, 1) := dz1 (k := 9) (m := 1) dzc1_cX11_follows_0 di_10 (Nat.zero_lt_succ _) rfl
theorem dX11_follows_10 : decode cX11_follows 10 = .ok (.isub, 1) := dz1 (k := 10) (m := 1) dzc1_cX11_follows_0 di_14 (Nat.zero_lt_succ _) rfl
theorem dX11_follows_11 : decode cX11_follows 11 = .ok (.istore_n 3, 1) := dz1 (k := 11) (m := 1) dzc1_cX11_follows_0 di_50 (Nat.zero_lt_succ _) rfl
theorem dX11_follows_12 : decode cX11_follows 12 = .ok (.iload_n 2, 1) := dz1 (k := 12) (m := 1) dzc1_cX11_follows_0 di_28 (Nat.zero_lt_succ _) rfl
theorem dX11_follows_13 : decode cX11_follows 13 = .ok (.ifCond .eq 20, 3) := dz1 (k := 13) (m := 3) dzc1_cX11_follows_0 di_625 (Nat.zero_lt_succ _) rfl
theorem dX11_follows_16 : decode cX11_follows 16 = .ok (.aload_n 0, 1) := dz1 (k := 16) (m := 1) dzc1_cX11_follows_0 di_0 (Nat.zero_lt_succ _) rfl
theorem dX11_follows_17 : decode cX11_follows 17 = .ok (.iconst 0, 1) := dz1 (k := 17) (m := 1) dzc1_cX11_follows_0 di_8 (Nat.zero_lt_succ _) rfl
theorem dX11_follows_18 : decode cX11_follows 18 = .ok (.sipush 1312, 3) := dz1 (k := 18) (m := 3) dzc1_cX11_follows_0 di_616 (Nat.zero_lt_succ _) rfl
theorem dX11_follows_21 : decode cX11_follows 21 = .ok (.bipush 8, 2) := dz1 (k := 21) (m := 2) dzc1_cX11_follows_0 di_184 (Nat.zero_lt_succ _) rfl
theorem dX11_follows_23 : decode cX11_follows 23 = .ok (.invokevirtual 160, 3) := dz1 (k := 23) (m := 3) dzc1_cX11_follows_0 di_610 (Nat.zero_lt_succ _) rfl
theorem dX11_follows_26 : decode cX11_follows 26 = .ok (.aload_n 0, 1) := dz1 (k := 26) (m := 1) dzc1_cX11_follows_0 di_0 (Nat.zero_lt_succ _) rfl
theorem dX11_follows_27 : decode cX11_follows 27 = .ok (.getfield 51, 3) := dz1 (k := 27) (m := 3) dzc1_cX11_follows_0 di_155 (Nat.zero_lt_succ _) rfl
theorem dX11_follows_30 : decode cX11_follows 30 = .ok (.iconst 0, 1) := dz1 (k := 30) (m := 1) dzc1_cX11_follows_0 di_8 (Nat.zero_lt_succ _) rfl
theorem dX11_follows_31 : decode cX11_follows 31 = .ok (.iconst 0, 1) := dz1 (k := 31) (m := 1) dzc1_cX11_follows_0 di_8 (Nat.zero_lt_succ _) rfl
set_option maxRecDepth 100000 in
theorem dzc1_cX11_follows_32 : DzLies cX11_follows (.mk ⟨[0x4f, 0x1d, 0x9b, 0x00, 0x81, 0x1d, 0x1b, 0xa2, 0x00, 0x7c, 0x2a, 0xb4, 0x00, 0x33, 0x1d, 0x2e, 0x04, 0x60, 0x36, 0x04, 0x15, 0x04, 0x10, 0x0d, 0xa2, 0x00, 0x20, 0x2a, 0xb4, 0x00, 0x26, 0x11, 0x05, 0x20]⟩) 32 := dz_lies (m := 34) (Nat.zero_lt_succ _) rfl
theorem dX11_follows_32 : decode cX11_follows 32 = .ok (.iastore, 1) := dz1 (k := 0) (m := 1) dzc1_cX11_follows_32 di_22 (Nat.zero_lt_succ _) rfl
theorem dX11_follows_33 : decode cX11_follows 33 = .ok (.iload_n 3, 1) := dz1 (k := 1) (m := 1) dzc1_cX11_follows_32 di_3 (Nat.zero_lt_succ _) rfl
theorem dX11_follows_34 : decode cX11_follows 34 = .ok (.ifCond .lt 129, 3) := dz1 (k := 2) (m := 3) dzc1_cX11_follows_32 di_626 (Nat.zero_lt_succ _) rfl
theorem dX11_follows_37 : decode cX11_follows 37 = .ok (.iload_n 3, 1) := dz1 (k := 5) (m := 1) dzc1_cX11_follows_32 di_3 (Nat.zero_lt_succ _) rfl
theorem dX11_follows_38 : decode cX11_follows 38 = .ok (.iload_n 1, 1) := dz1 (k := 6) (m := 1) dzc1_cX11_follows_32 di_11 (Nat.zero_lt_succ _) rfl
theorem dX11_follows_39 : decode cX11_follows 39 = .ok (.if_icmp .ge 124, 3) := dz1 (k := 7) (m := 3) dzc1_cX11_follows_32 di_627 (Nat.zero_lt_succ _) rfl
theorem dX11_follows_42 : decode cX11_follows 42 = .ok (.aload_n 0, 1) := dz1 (k := 10) (m := 1) dzc1_cX11_follows_32 di_0 (Nat.zero_lt_succ _) rfl
theorem dX11_follows_43 : decode cX11_follows 43 = .ok (.getfield 51, 3) := dz1 (k := 11) (m := 3) dzc1_cX11_follows_32 di_155 (Nat.zero_lt_succ _) rfl
theorem dX11_follows_46 : decode cX11_follows 46 = .ok (.iload_n 3, 1) := dz1 (k := 14) (m := 1) dzc1_cX11_follows_32 di_3 (Nat.zero_lt_succ _) rfl
theorem dX11_follows_47 : decode cX11_follows 47 = .ok (.iaload, 1) := dz1 (k := 15) (m := 1) dzc1_cX11_follows_32 di_30 (Nat.zero_lt_succ _) rfl
theorem dX11_follows_48 : decode cX11_follows 48 = .ok (.iconst 1, 1) := dz1 (k := 16) (m := 1) dzc1_cX11_follows_32 di_10 (Nat.zero_lt_succ _) rfl
theorem dX11_follows_49 : decode cX11_follows 49 = .ok (.iadd, 1) := dz1 (k := 17) (m := 1) dzc1_cX11_follows_32 di_24 (Nat.zero_lt_succ _) rfl
theorem dX11_follows_50 : decode cX11_follows 50 = .ok (.istore 4, 2) := dz1 (k := 18) (m := 2) dzc1_cX11_follows_32 di_51 (Nat.zero_lt_succ _) rfl
theorem dX11_follows_52 : decode cX11_follows 52 = .ok (.iload 4, 2) := dz1 (k := 20) (m := 2) dzc1_cX11_follows_32 di_52 (Nat.zero_lt_succ _) rfl
theorem dX11_follows_54 : decode cX11_follows 54 = .ok (.bipush 13, 2) := dz1 (k := 22) (m := 2) dzc1_cX11_follows_32 di_621 (Nat.zero_lt_succ _) rfl
theorem dX11_follows_56 : decode cX11_follows 56 = .ok (.if_icmp .ge 32, 3) := dz1 (k := 24) (m := 3) dzc1_cX11_follows_32 di_223 (Nat.zero_lt_succ _) rfl
theorem dX11_follows_59 : decode cX11_follows 59 = .ok (.aload_n 0, 1) := dz1 (k := 27) (m := 1) dzc1_cX11_follows_32 di_0 (Nat.zero_lt_succ _) rfl
theorem dX11_follows_60 : decode cX11_follows 60 = .ok (.getfield 38, 3) := dz1 (k := 28) (m := 3) dzc1_cX11_follows_32 di_574 (Nat.zero_lt_succ _) rfl
theorem dX11_follows_63 : decode cX11_follows 63 = .ok (.sipush 1312, 3) := dz1 (k := 31) (m := 3) dzc1_cX11_follows_32 di_616 (Nat.zero_lt_succ _) rfl
set_option maxRecDepth 100000 in
theorem dzc1_cX11_follows_64 : DzLies cX11_follows (.mk ⟨[0x05, 0x20, 0x1d, 0x10, 0x08, 0x68, 0x60, 0x08, 0x60, 0x2e, 0x15, 0x04, 0xb8, 0x00, 0x8b, 0x9a, 0x00, 0x09, 0x84, 0x04, 0x01, 0xa7, 0xff, 0xdf, 0x15, 0x04, 0x10, 0x0c, 0xa4, 0x00, 0x09, 0x84, 0x03, 0xff]⟩) 64 := dz_lies (m := 34) (Nat.zero_lt_succ _) rfl
theorem dX11_follows_66 : decode cX11_follows 66 = .ok (.iload_n 3, 1) := dz1 (k := 2) (m := 1) dzc1_cX11_follows_64 di_3 (Nat.zero_lt_succ _) rfl
theorem dX11_follows_67 : decode cX11_follows 67 = .ok (.bipush 8, 2) := dz1 (k := 3) (m := 2) dzc1_cX11_follows_64 di_184 (Nat.zero_lt_succ _) rfl
theorem dX11_follows_69 : decode cX11_follows 69 = .ok (.imul, 1) := dz1 (k := 5) (m := 1) dzc1_cX11_follows_64 di_113 (Nat.zero_lt_succ _) rfl
theorem dX11_follows_70 : decode cX11_follows 70 = .ok (.iadd, 1) := dz1 (k := 6) (m := 1) dzc1_cX11_follows_64 di_24 (Nat.zero_lt_succ _) rfl
theorem dX11_follows_71 : decode cX11_follows 71 = .ok (.iconst 5, 1) := dz1 (k := 7) (m := 1) dzc1_cX11_follows_64 di_145 (Nat.zero_lt_succ _) rfl
theorem dX11_follows_72 : decode cX11_follows 72 = .ok (.iadd, 1) := dz1 (k := 8) (m := 1) dzc1_cX11_follows_64 di_24 (Nat.zero_lt_succ _) rfl
theorem dX11_follows_73 : decode cX11_follows 73 = .ok (.iaload, 1) := dz1 (k := 9) (m := 1) dzc1_cX11_follows_64 di_30 (Nat.zero_lt_succ _) rfl
theorem dX11_follows_74 : decode cX11_follows 74 = .ok (.iload 4, 2) := dz1 (k := 10) (m := 2) dzc1_cX11_follows_64 di_52 (Nat.zero_lt_succ _) rfl
theorem dX11_follows_76 : decode cX11_follows 76 = .ok (.invokestatic 139, 3) := dz1 (k := 12) (m := 3) dzc1_cX11_follows_64 di_587 (Nat.zero_lt_succ _) rfl
theorem dX11_follows_79 : decode cX11_follows 79 = .ok (.ifCond .ne 9, 3) := dz1 (k := 15) (m := 3) dzc1_cX11_follows_64 di_243 (Nat.zero_lt_succ _) rfl
theorem dX11_follows_82 : decode cX11_follows 82 = .ok (.iinc 4 1, 3) := dz1 (k := 18) (m := 3) dzc1_cX11_follows_64 di_63 (Nat.zero_lt_succ _) rfl
theorem dX11_follows_85 : decode cX11_follows 85 = .ok (.goto (-33), 3) := dz1 (k := 21) (m := 3) dzc1_cX11_follows_64 di_178 (Nat.zero_lt_succ _) rfl
theorem dX11_follows_88 : decode cX11_follows 88 = .ok (.iload 4, 2) := dz1 (k := 24) (m := 2) dzc1_cX11_follows_64 di_52 (Nat.zero_lt_succ _) rfl
theorem dX11_follows_90 : decode cX11_follows 90 = .ok (.bipush 12, 2) := dz1 (k := 26) (m := 2) dzc1_cX11_follows_64 di_126 (Nat.zero_lt_succ _) rfl
theorem dX11_follows_92 : decode cX11_follows 92 = .ok (.if_icmp .le 9, 3) := dz1 (k := 28) (m := 3) dzc1_cX11_follows_64 di_324 (Nat.zero_lt_succ _) rfl
theorem dX11_follows_95 : decode cX11_follows 95 = .ok (.iinc 3 (-1), 3) := dz1 (k := 31) (m := 3) dzc1_cX11_follows_64 di_628 (Nat.zero_lt_succ _) rfl
set_option maxRecDepth 100000 in
theorem dzc1_cX11_follows_96 : DzLies cX11_follows (.mk ⟨[0x03, 0xff, 0xa7, 0x00, 0x3e, 0x2a, 0xb4, 0x00, 0x33, 0x1d, 0x15, 0x04, 0x4f, 0x2a, 0x11, 0x05, 0x20, 0x1d, 0x10, 0x08, 0x68, 0x60, 0x11, 0x05, 0x20, 0x1d, 0x04, 0x60, 0x10, 0x08, 0x68, 0x60]⟩) 96 := dz_lies (m := 32) (Nat.zero_lt_succ _) rfl
theorem dX11_follows_98 : decode cX11_follows 98 = .ok (.goto 62, 3) := dz1 (k := 2) (m := 3) dzc1_cX11_follows_96 di_629 (Nat.zero_lt_succ _) rfl
theorem dX11_follows_101 : decode cX11_follows 101 = .ok (.aload_n 0, 1) := dz1 (k := 5) (m := 1) dzc1_cX11_follows_96 di_0 (Nat.zero_lt_succ _) rfl
theorem dX11_follows_102 : decode cX11_follows 102 = .ok (.getfield 51, 3) := dz1 (k := 6) (m := 3) dzc1_cX11_follows_96 di_155 (Nat.zero_lt_succ _) rfl
theorem dX11_follows_105 : decode cX11_follows 105 = .ok (.iload_n 3, 1) := dz1 (k := 9) (m := 1) dzc1_cX11_follows_96 di_3 (Nat.zero_lt_succ _) rfl
theorem dX11_follows_106 : decode cX11_follows 106 = .ok (.iload 4, 2) := dz1 (k := 10) (m := 2) dzc1_cX11_follows_96 di_52 (Nat.zero_lt_succ _) rfl
theorem dX11_follows_108 : decode cX11_follows 108 = .ok (.iastore, 1) := dz1 (k := 12) (m := 1) dzc1_cX11_follows_96 di_22 (Nat.zero_lt_succ _) rfl
theorem dX11_follows_109 : decode cX11_follows 109 = .ok (.aload_n 0, 1) := dz1 (k := 13) (m := 1) dzc1_cX11_follows_96 di_0 (Nat.zero_lt_succ _) rfl
theorem dX11_follows_110 : decode cX11_follows 110 = .ok (.sipush 1312, 3) := dz1 (k := 14) (m := 3) dzc1_cX11_follows_96 di_616 (Nat.zero_lt_succ _) rfl
theorem dX11_follows_113 : decode cX11_follows 113 = .ok (.iload_n 3, 1) := dz1 (k := 17) (m := 1) dzc1_cX11_follows_96 di_3 (Nat.zero_lt_succ _) rfl
theorem dX11_follows_114 : decode cX11_follows 114 = .ok (.bipush 8, 2) := dz1 (k := 18) (m := 2) dzc1_cX11_follows_96 di_184 (Nat.zero_lt_succ _) rfl
theorem dX11_follows_116 : decode cX11_follows 116 = .ok (.imul, 1) := dz1 (k := 20) (m := 1) dzc1_cX11_follows_96 di_113 (Nat.zero_lt_succ _) rfl
theorem dX11_follows_117 : decode cX11_follows 117 = .ok (.iadd, 1) := dz1 (k := 21) (m := 1) dzc1_cX11_follows_96 di_24 (Nat.zero_lt_succ _) rfl
theorem dX11_follows_118 : decode cX11_follows 118 = .ok (.sipush 1312, 3) := dz1 (k := 22) (m := 3) dzc1_cX11_follows_96 di_616 (Nat.zero_lt_succ _) rfl
theorem dX11_follows_121 : decode cX11_follows 121 = .ok (.iload_n 3, 1) := dz1 (k := 25) (m := 1) dzc1_cX11_follows_96 di_3 (Nat.zero_lt_succ _) rfl
theorem dX11_follows_122 : decode cX11_follows 122 = .ok (.iconst 1, 1) := dz1 (k := 26) (m := 1) dzc1_cX11_follows_96 di_10 (Nat.zero_lt_succ _) rfl
theorem dX11_follows_123 : decode cX11_follows 123 = .ok (.iadd, 1) := dz1 (k := 27) (m := 1) dzc1_cX11_follows_96 di_24 (Nat.zero_lt_succ _) rfl
theorem dX11_follows_124 : decode cX11_follows 124 = .ok (.bipush 8, 2) := dz1 (k := 28) (m := 2) dzc1_cX11_follows_96 di_184 (Nat.zero_lt_succ _) rfl
theorem dX11_follows_126 : decode cX11_follows 126 = .ok (.imul, 1) := dz1 (k := 30) (m := 1) dzc1_cX11_follows_96 di_113 (Nat.zero_lt_succ _) rfl
theorem dX11_follows_127 : decode cX11_follows 127 = .ok (.iadd, 1) := dz1 (k := 31) (m := 1) dzc1_cX11_follows_96 di_24 (Nat.zero_lt_succ _) rfl
set_option maxRecDepth 100000 in
theorem dzc1_cX11_follows_128 : DzLies cX11_follows (.mk ⟨[0x10, 0x08, 0xb6, 0x00, 0xa0, 0x2a, 0x11, 0x05, 0x20, 0x1d, 0x04, 0x60, 0x10, 0x08, 0x68, 0x60, 0x15, 0x04, 0xb6, 0x00, 0xa7, 0x57, 0x84, 0x03, 0x01, 0x2a, 0xb4, 0x00, 0x33, 0x1d, 0x03, 0x4f]⟩) 128 := dz_lies (m := 32) (Nat.zero_lt_succ _) rfl
theorem dX11_follows_128 : decode cX11_follows 128 = .ok (.bipush 8, 2) := dz1 (k := 0) (m := 2) dzc1_cX11_follows_128 di_184 (Nat.zero_lt_succ _) rfl
theorem dX11_follows_130 : decode cX11_follows 130 = .ok (.invokevirtual 160, 3) := dz1 (k := 2) (m := 3) dzc1_cX11_follows_128 di_610 (Nat.zero_lt_succ _) rfl
theorem dX11_follows_133 : decode cX11_follows 133 = .ok (.aload_n 0, 1) := dz1 (k := 5) (m := 1) dzc1_cX11_follows_128 di_0 (Nat.zero_lt_succ _) rfl
theorem dX11_follows_134 : decode cX11_follows 134 = .ok (.sipush 1312, 3) := dz1 (k := 6) (m := 3) dzc1_cX11_follows_128 di_616 (Nat.zero_lt_succ _) rfl
theorem dX11_follows_137 : decode cX11_follows 137 = .ok (.iload_n 3, 1) := dz1 (k := 9) (m := 1) dzc1_cX11_follows_128 di_3 (Nat.zero_lt_succ _) rfl
theorem dX11_follows_138 : decode cX11_follows 138 = .ok (.iconst 1, 1) := dz1 (k := 10) (m := 1) dzc1_cX11_follows_128 di_10 (Nat.zero_lt_succ _) rfl
theorem dX11_follows_139 : decode cX11_follows 139 = .ok (.iadd, 1) := dz1 (k := 11) (m := 1) dzc1_cX11_follows_128 di_24 (Nat.zero_lt_succ _) rfl
theorem dX11_follows_140 : decode cX11_follows 140 = .ok (.bipush 8, 2) := dz1 (k := 12) (m := 2) dzc1_cX11_follows_128 di_184 (Nat.zero_lt_succ _) rfl
theorem dX11_follows_142 : decode cX11_follows 142 = .ok (.imul, 1) := dz1 (k := 14) (m := 1) dzc1_cX11_follows_128 di_113 (Nat.zero_lt_succ _) rfl
theorem dX11_follows_143 : decode cX11_follows 143 = .ok (.iadd, 1) := dz1 (k := 15) (m := 1) dzc1_cX11_follows_128 di_24 (Nat.zero_lt_succ _) rfl
theorem dX11_follows_144 : decode cX11_follows 144 = .ok (.iload 4, 2) := dz1 (k := 16) (m := 2) dzc1_cX11_follows_128 di_52 (Nat.zero_lt_succ _) rfl
theorem dX11_follows_146 : decode cX11_follows 146 = .ok (.invokevirtual 167, 3) := dz1 (k := 18) (m := 3) dzc1_cX11_follows_128 di_295 (Nat.zero_lt_succ _) rfl
theorem dX11_follows_149 : decode cX11_follows 149 = .ok (.pop, 1) := dz1 (k := 21) (m := 1) dzc1_cX11_follows_128 di_331 (Nat.zero_lt_succ _) rfl
theorem dX11_follows_150 : decode cX11_follows 150 = .ok (.iinc 3 1, 3) := dz1 (k := 22) (m := 3) dzc1_cX11_follows_128 di_94 (Nat.zero_lt_succ _) rfl
theorem dX11_follows_153 : decode cX11_follows 153 = .ok (.aload_n 0, 1) := dz1 (k := 25) (m := 1) dzc1_cX11_follows_128 di_0 (Nat.zero_lt_succ _) rfl
theorem dX11_follows_154 : decode cX11_follows 154 = .ok (.getfield 51, 3) := dz1 (k := 26) (m := 3) dzc1_cX11_follows_128 di_155 (Nat.zero_lt_succ _) rfl
theorem dX11_follows_157 : decode cX11_follows 157 = .ok (.iload_n 3, 1) := dz1 (k := 29) (m := 1) dzc1_cX11_follows_128 di_3 (Nat.zero_lt_succ _) rfl
theorem dX11_follows_158 : decode cX11_follows 158 = .ok (.iconst 0, 1) := dz1 (k := 30) (m := 1) dzc1_cX11_follows_128 di_8 (Nat.zero_lt_succ _) rfl
theorem dX11_follows_159 : decode cX11_follows 159 = .ok (.iastore, 1) := dz1 (k := 31) (m := 1) dzc1_cX11_follows_128 di_22 (Nat.zero_lt_succ _) rfl
set_option maxRecDepth 100000 in
theorem dzc1_cX11_follows_160 : DzLies cX11_follows (.mk ⟨[0xa7, 0xff, 0x81, 0x1d, 0x1b, 0xa0, 0x00, 0x07, 0x04, 0xa7, 0x00, 0x04, 0x03, 0xac]⟩) 160 := dz_lies (m := 14) (Nat.zero_lt_succ _) rfl
theorem dX11_follows_160 : decode cX11_follows 160 = .ok (.goto (-127), 3) := dz1 (k := 0) (m := 3) dzc1_cX11_follows_160 di_630 (Nat.zero_lt_succ _) rfl
theorem dX11_follows_163 : decode cX11_follows 163 = .ok (.iload_n 3, 1) := dz1 (k := 3) (m := 1) dzc1_cX11_follows_160 di_3 (Nat.zero_lt_succ _) rfl
theorem dX11_follows_164 : decode cX11_follows 164 = .ok (.iload_n 1, 1) := dz1 (k := 4) (m := 1) dzc1_cX11_follows_160 di_11 (Nat.zero_lt_succ _) rfl
theorem dX11_follows_165 : decode cX11_follows 165 = .ok (.if_icmp .ne 7, 3) := dz1 (k := 5) (m := 3) dzc1_cX11_follows_160 di_7 (Nat.zero_lt_succ _) rfl
theorem dX11_follows_168 : decode cX11_follows 168 = .ok (.iconst 1, 1) := dz1 (k := 8) (m := 1) dzc1_cX11_follows_160 di_10 (Nat.zero_lt_succ _) rfl
theorem dX11_follows_169 : decode cX11_follows 169 = .ok (.goto 4, 3) := dz1 (k := 9) (m := 3) dzc1_cX11_follows_160 di_49 (Nat.zero_lt_succ _) rfl
theorem dX11_follows_172 : decode cX11_follows 172 = .ok (.iconst 0, 1) := dz1 (k := 12) (m := 1) dzc1_cX11_follows_160 di_8 (Nat.zero_lt_succ _) rfl
theorem dX11_follows_173 : decode cX11_follows 173 = .ok (.ireturn, 1) := dz1 (k := 13) (m := 1) dzc1_cX11_follows_160 di_13 (Nat.zero_lt_succ _) rfl
set_option maxRecDepth 100000 in
theorem dzc1_cX11_comes_0 : DzLies cX11_comes (.mk ⟨[0x2a, 0x1b, 0x1c, 0xb6, 0x00, 0x53, 0x03, 0x3e, 0x1d, 0x1c, 0xa2, 0x00, 0x1a, 0x2a, 0xb4, 0x00, 0x0d, 0x10, 0x28, 0x1b, 0x68, 0x1d, 0x60, 0x2a, 0xb4, 0x00, 0x36, 0x1d, 0x2e, 0x4f, 0x84, 0x03, 0x01]⟩) 0 := dz_lies (m := 33) (Nat.zero_lt_succ _) rfl
theorem dX11_comes_0 : decode cX11_comes 0 = .ok (.aload_n 0, 1) := dz1 (k := 0) (m := 1) dzc1_cX11_comes_0 di_0 (Nat.zero_lt_succ _) rfl
theorem dX11_comes_1 : decode cX11_comes 1 = .ok (.iload_n 1, 1) := dz1 (k := 1) (m := 1) dzc1_cX11_comes_0 di_11 (Nat.zero_lt_succ _) rfl
theorem dX11_comes_2 : decode cX11_comes 2 = .ok (.iload_n 2, 1) := dz1 (k := 2) (m := 1) dzc1_cX11_comes_0 di_28 (Nat.zero_lt_succ _) rfl
theorem dX11_comes_3 : decode cX11_comes 3 = .ok (.invokevirtual 83, 3) := dz1 (k := 3) (m := 3) dzc1_cX11_comes_0 di_527 (Nat.zero_lt_succ _) rfl
theorem dX11_comes_6 : decode cX11_comes 6 = .ok (.iconst 0, 1) := dz1 (k := 6) (m := 1) dzc1_cX11_comes_0 di_8 (Nat.zero_lt_succ _) rfl
theorem dX11_comes_7 : decode cX11_comes 7 = .ok (.istore_n 3, 1) := dz1 (k := 7) (m := 1) dzc1_cX11_comes_0 di_50 (Nat.zero_lt_succ _) rfl
theorem dX11_comes_8 : decode cX11_comes 8 = .ok (.iload_n 3, 1) := dz1 (k := 8) (m := 1) dzc1_cX11_comes_0 di_3 (Nat.zero_lt_succ _) rfl
theorem dX11_comes_9 : decode cX11_comes 9 = .ok (.iload_n 2, 1) := dz1 (k := 9) (m := 1) dzc1_cX11_comes_0 di_28 (Nat.zero_lt_succ _) rfl
theorem dX11_comes_10 : decode cX11_comes 10 = .ok (.if_icmp .ge 26, 3) := dz1 (k := 10) (m := 3) dzc1_cX11_comes_0 di_378 (Nat.zero_lt_succ _) rfl
theorem dX11_comes_13 : decode cX11_comes 13 = .ok (.aload_n 0, 1) := dz1 (k := 13) (m := 1) dzc1_cX11_comes_0 di_0 (Nat.zero_lt_succ _) rfl
theorem dX11_comes_14 : decode cX11_comes 14 = .ok (.getfield 13, 3) := dz1 (k := 14) (m := 3) dzc1_cX11_comes_0 di_524 (Nat.zero_lt_succ _) rfl
theorem dX11_comes_17 : decode cX11_comes 17 = .ok (.bipush 40, 2) := dz1 (k := 17) (m := 2) dzc1_cX11_comes_0 di_16 (Nat.zero_lt_succ _) rfl
theorem dX11_comes_19 : decode cX11_comes 19 = .ok (.iload_n 1, 1) := dz1 (k := 19) (m := 1) dzc1_cX11_comes_0 di_11 (Nat.zero_lt_succ _) rfl
theorem dX11_comes_20 : decode cX11_comes 20 = .ok (.imul, 1) := dz1 (k := 20) (m := 1) dzc1_cX11_comes_0 di_113 (Nat.zero_lt_succ _) rfl
theorem dX11_comes_21 : decode cX11_comes 21 = .ok (.iload_n 3, 1) := dz1 (k := 21) (m := 1) dzc1_cX11_comes_0 di_3 (Nat.zero_lt_succ _) rfl
theorem dX11_comes_22 : decode cX11_comes 22 = .ok (.iadd, 1) := dz1 (k := 22) (m := 1) dzc1_cX11_comes_0 di_24 (Nat.zero_lt_succ _) rfl
theorem dX11_comes_23 : decode cX11_comes 23 = .ok (.aload_n 0, 1) := dz1 (k := 23) (m := 1) dzc1_cX11_comes_0 di_0 (Nat.zero_lt_succ _) rfl
theorem dX11_comes_24 : decode cX11_comes 24 = .ok (.getfield 54, 3) := dz1 (k := 24) (m := 3) dzc1_cX11_comes_0 di_158 (Nat.zero_lt_succ _) rfl
theorem dX11_comes_27 : decode cX11_comes 27 = .ok (.iload_n 3, 1) := dz1 (k := 27) (m := 1) dzc1_cX11_comes_0 di_3 (Nat.zero_lt_succ _) rfl
theorem dX11_comes_28 : decode cX11_comes 28 = .ok (.iaload, 1) := dz1 (k := 28) (m := 1) dzc1_cX11_comes_0 di_30 (Nat.zero_lt_succ _) rfl
theorem dX11_comes_29 : decode cX11_comes 29 = .ok (.iastore, 1) := dz1 (k := 29) (m := 1) dzc1_cX11_comes_0 di_22 (Nat.zero_lt_succ _) rfl
theorem dX11_comes_30 : decode cX11_comes 30 = .ok (.iinc 3 1, 3) := dz1 (k := 30) (m := 3) dzc1_cX11_comes_0 di_94 (Nat.zero_lt_succ _) rfl
set_option maxRecDepth 100000 in
theorem dzc1_cX11_comes_32 : DzLies cX11_comes (.mk ⟨[0x01, 0xa7, 0xff, 0xe7, 0xb1]⟩) 32 := dz_lies (m := 5) (Nat.zero_lt_succ _) rfl
theorem dX11_comes_33 : decode cX11_comes 33 = .ok (.goto (-25), 3) := dz1 (k := 1) (m := 3) dzc1_cX11_comes_32 di_172 (Nat.zero_lt_succ _) rfl
theorem dX11_comes_36 : decode cX11_comes 36 = .ok (.return_, 1) := dz1 (k := 4) (m := 1) dzc1_cX11_comes_32 di_2 (Nat.zero_lt_succ _) rfl
set_option maxRecDepth 100000 in
theorem dzc1_cX11_takes_0 : DzLies cX11_takes (.mk ⟨[0x03, 0x3d, 0x1c, 0x1b, 0xa2, 0x00, 0x15, 0x2a, 0xb4, 0x00, 0x36, 0x1c, 0x2a, 0xb4, 0x00, 0x33, 0x1c, 0x2e, 0x4f, 0x84, 0x02, 0x01, 0xa7, 0xff, 0xec, 0xb1]⟩) 0 := dz_lies (m := 26) (Nat.zero_lt_succ _) rfl
theorem dX11_takes_0 : decode cX11_takes 0 = .ok (.iconst 0, 1) := dz1 (k := 0) (m := 1) dzc1_cX11_takes_0 di_8 (Nat.zero_lt_succ _) rfl
theorem dX11_takes_1 : decode cX11_takes 1 = .ok (.istore_n 2, 1) := dz1 (k := 1) (m := 1) dzc1_cX11_takes_0 di_27 (Nat.zero_lt_succ _) rfl
theorem dX11_takes_2 : decode cX11_takes 2 = .ok (.iload_n 2, 1) := dz1 (k := 2) (m := 1) dzc1_cX11_takes_0 di_28 (Nat.zero_lt_succ _) rfl
theorem dX11_takes_3 : decode cX11_takes 3 = .ok (.iload_n 1, 1) := dz1 (k := 3) (m := 1) dzc1_cX11_takes_0 di_11 (Nat.zero_lt_succ _) rfl
theorem dX11_takes_4 : decode cX11_takes 4 = .ok (.if_icmp .ge 21, 3) := dz1 (k := 4) (m := 3) dzc1_cX11_takes_0 di_29 (Nat.zero_lt_succ _) rfl
theorem dX11_takes_7 : decode cX11_takes 7 = .ok (.aload_n 0, 1) := dz1 (k := 7) (m := 1) dzc1_cX11_takes_0 di_0 (Nat.zero_lt_succ _) rfl
theorem dX11_takes_8 : decode cX11_takes 8 = .ok (.getfield 54, 3) := dz1 (k := 8) (m := 3) dzc1_cX11_takes_0 di_158 (Nat.zero_lt_succ _) rfl
theorem dX11_takes_11 : decode cX11_takes 11 = .ok (.iload_n 2, 1) := dz1 (k := 11) (m := 1) dzc1_cX11_takes_0 di_28 (Nat.zero_lt_succ _) rfl
theorem dX11_takes_12 : decode cX11_takes 12 = .ok (.aload_n 0, 1) := dz1 (k := 12) (m := 1) dzc1_cX11_takes_0 di_0 (Nat.zero_lt_succ _) rfl
theorem dX11_takes_13 : decode cX11_takes 13 = .ok (.getfield 51, 3) := dz1 (k := 13) (m := 3) dzc1_cX11_takes_0 di_155 (Nat.zero_lt_succ _) rfl
theorem dX11_takes_16 : decode cX11_takes 16 = .ok (.iload_n 2, 1) := dz1 (k := 16) (m := 1) dzc1_cX11_takes_0 di_28 (Nat.zero_lt_succ _) rfl
theorem dX11_takes_17 : decode cX11_takes 17 = .ok (.iaload, 1) := dz1 (k := 17) (m := 1) dzc1_cX11_takes_0 di_30 (Nat.zero_lt_succ _) rfl
theorem dX11_takes_18 : decode cX11_takes 18 = .ok (.iastore, 1) := dz1 (k := 18) (m := 1) dzc1_cX11_takes_0 di_22 (Nat.zero_lt_succ _) rfl
theorem dX11_takes_19 : decode cX11_takes 19 = .ok (.iinc 2 1, 3) := dz1 (k := 19) (m := 3) dzc1_cX11_takes_0 di_31 (Nat.zero_lt_succ _) rfl
theorem dX11_takes_22 : decode cX11_takes 22 = .ok (.goto (-20), 3) := dz1 (k := 22) (m := 3) dzc1_cX11_takes_0 di_42 (Nat.zero_lt_succ _) rfl
theorem dX11_takes_25 : decode cX11_takes 25 = .ok (.return_, 1) := dz1 (k := 25) (m := 1) dzc1_cX11_takes_0 di_2 (Nat.zero_lt_succ _) rfl
set_option maxRecDepth 100000 in
theorem dzc1_cX11_fewest_0 : DzLies cX11_fewest (.mk ⟨[0x2a, 0x1b, 0xb6, 0x00, 0x98, 0x99, 0x00, 0x0b, 0x2a, 0x1c, 0xb6, 0x00, 0x4b, 0x9a, 0x00, 0x05, 0x02, 0xac, 0x2a, 0xb4, 0x00, 0x26, 0x07, 0x2e, 0x1b, 0xb8, 0x00, 0x8b, 0x99, 0x00, 0x0b, 0x2a]⟩) 0 := dz_lies (m := 32) (Nat.zero_lt_succ _) rfl
theorem dX11_fewest_0 : decode cX11_fewest 0 = .ok (.aload_n 0, 1) := dz1 (k := 0) (m := 1) dzc1_cX11_fewest_0 di_0 (Nat.zero_lt_succ _) rfl
theorem dX11_fewest_1 : decode cX11_fewest 1 = .ok (.iload_n 1, 1) := dz1 (k := 1) (m := 1) dzc1_cX11_fewest_0 di_11 (Nat.zero_lt_succ _) rfl
theorem dX11_fewest_2 : decode cX11_fewest 2 = .ok (.invokevirtual 152, 3) := dz1 (k := 2) (m := 3) dzc1_cX11_fewest_0 di_600 (Nat.zero_lt_succ _) rfl
theorem dX11_fewest_5 : decode cX11_fewest 5 = .ok (.ifCond .eq 11, 3) := dz1 (k := 5) (m := 3) dzc1_cX11_fewest_0 di_238 (Nat.zero_lt_succ _) rfl
theorem dX11_fewest_8 : decode cX11_fewest 8 = .ok (.aload_n 0, 1) := dz1 (k := 8) (m := 1) dzc1_cX11_fewest_0 di_0 (Nat.zero_lt_succ _) rfl
theorem dX11_fewest_9 : decode cX11_fewest 9 = .ok (.iload_n 2, 1) := dz1 (k := 9) (m := 1) dzc1_cX11_fewest_0 di_28 (Nat.zero_lt_succ _) rfl
theorem dX11_fewest_10 : decode cX11_fewest 10 = .ok (.invokevirtual 75, 3) := dz1 (k := 10) (m := 3) dzc1_cX11_fewest_0 di_525 (Nat.zero_lt_succ _) rfl
theorem dX11_fewest_13 : decode cX11_fewest 13 = .ok (.ifCond .ne 5, 3) := dz1 (k := 13) (m := 3) dzc1_cX11_fewest_0 di_239 (Nat.zero_lt_succ _) rfl
theorem dX11_fewest_16 : decode cX11_fewest 16 = .ok (.iconst (-1), 1) := dz1 (k := 16) (m := 1) dzc1_cX11_fewest_0 di_65 (Nat.zero_lt_succ _) rfl
theorem dX11_fewest_17 : decode cX11_fewest 17 = .ok (.ireturn, 1) := dz1 (k := 17) (m := 1) dzc1_cX11_fewest_0 di_13 (Nat.zero_lt_succ _) rfl
theorem dX11_fewest_18 : decode cX11_fewest 18 = .ok (.aload_n 0, 1) := dz1 (k := 18) (m := 1) dzc1_cX11_fewest_0 di_0 (Nat.zero_lt_succ _) rfl
theorem dX11_fewest_19 : decode cX11_fewest 19 = .ok (.getfield 38, 3) := dz1 (k := 19) (m := 3) dzc1_cX11_fewest_0 di_574 (Nat.zero_lt_succ _) rfl
theorem dX11_fewest_22 : decode cX11_fewest 22 = .ok (.iconst 4, 1) := dz1 (k := 22) (m := 1) dzc1_cX11_fewest_0 di_33 (Nat.zero_lt_succ _) rfl
theorem dX11_fewest_23 : decode cX11_fewest 23 = .ok (.iaload, 1) := dz1 (k := 23) (m := 1) dzc1_cX11_fewest_0 di_30 (Nat.zero_lt_succ _) rfl
theorem dX11_fewest_24 : decode cX11_fewest 24 = .ok (.iload_n 1, 1) := dz1 (k := 24) (m := 1) dzc1_cX11_fewest_0 di_11 (Nat.zero_lt_succ _) rfl
theorem dX11_fewest_25 : decode cX11_fewest 25 = .ok (.invokestatic 139, 3) := dz1 (k := 25) (m := 3) dzc1_cX11_fewest_0 di_587 (Nat.zero_lt_succ _) rfl
theorem dX11_fewest_28 : decode cX11_fewest 28 = .ok (.ifCond .eq 11, 3) := dz1 (k := 28) (m := 3) dzc1_cX11_fewest_0 di_238 (Nat.zero_lt_succ _) rfl
theorem dX11_fewest_31 : decode cX11_fewest 31 = .ok (.aload_n 0, 1) := dz1 (k := 31) (m := 1) dzc1_cX11_fewest_0 di_0 (Nat.zero_lt_succ _) rfl
set_option maxRecDepth 100000 in
theorem dzc1_cX11_fewest_32 : DzLies cX11_fewest (.mk ⟨[0x1c, 0x03, 0xb6, 0x00, 0x53, 0x03, 0xac, 0x04, 0x3e, 0x1d, 0x07, 0xa3, 0x00, 0x44, 0x2a, 0x1d, 0x04, 0xb6, 0x00, 0xae, 0x36, 0x04, 0x15, 0x04, 0x99, 0x00, 0x31, 0x2a, 0xb4, 0x00, 0x26, 0x11, 0x05, 0x20]⟩) 32 := dz_lies (m := 34) (Nat.zero_lt_succ _) rfl
theorem dX11_fewest_32 : decode cX11_fewest 32 = .ok (.iload_n 2, 1) := dz1 (k := 0) (m := 1) dzc1_cX11_fewest_32 di_28 (Nat.zero_lt_succ _) rfl
theorem dX11_fewest_33 : decode cX11_fewest 33 = .ok (.iconst 0, 1) := dz1 (k := 1) (m := 1) dzc1_cX11_fewest_32 di_8 (Nat.zero_lt_succ _) rfl
theorem dX11_fewest_34 : decode cX11_fewest 34 = .ok (.invokevirtual 83, 3) := dz1 (k := 2) (m := 3) dzc1_cX11_fewest_32 di_527 (Nat.zero_lt_succ _) rfl
theorem dX11_fewest_37 : decode cX11_fewest 37 = .ok (.iconst 0, 1) := dz1 (k := 5) (m := 1) dzc1_cX11_fewest_32 di_8 (Nat.zero_lt_succ _) rfl
theorem dX11_fewest_38 : decode cX11_fewest 38 = .ok (.ireturn, 1) := dz1 (k := 6) (m := 1) dzc1_cX11_fewest_32 di_13 (Nat.zero_lt_succ _) rfl
theorem dX11_fewest_39 : decode cX11_fewest 39 = .ok (.iconst 1, 1) := dz1 (k := 7) (m := 1) dzc1_cX11_fewest_32 di_10 (Nat.zero_lt_succ _) rfl
theorem dX11_fewest_40 : decode cX11_fewest 40 = .ok (.istore_n 3, 1) := dz1 (k := 8) (m := 1) dzc1_cX11_fewest_32 di_50 (Nat.zero_lt_succ _) rfl
theorem dX11_fewest_41 : decode cX11_fewest 41 = .ok (.iload_n 3, 1) := dz1 (k := 9) (m := 1) dzc1_cX11_fewest_32 di_3 (Nat.zero_lt_succ _) rfl
theorem dX11_fewest_42 : decode cX11_fewest 42 = .ok (.iconst 4, 1) := dz1 (k := 10) (m := 1) dzc1_cX11_fewest_32 di_33 (Nat.zero_lt_succ _) rfl
theorem dX11_fewest_43 : decode cX11_fewest 43 = .ok (.if_icmp .gt 68, 3) := dz1 (k := 11) (m := 3) dzc1_cX11_fewest_32 di_631 (Nat.zero_lt_succ _) rfl
theorem dX11_fewest_46 : decode cX11_fewest 46 = .ok (.aload_n 0, 1) := dz1 (k := 14) (m := 1) dzc1_cX11_fewest_32 di_0 (Nat.zero_lt_succ _) rfl
theorem dX11_fewest_47 : decode cX11_fewest 47 = .ok (.iload_n 3, 1) := dz1 (k := 15) (m := 1) dzc1_cX11_fewest_32 di_3 (Nat.zero_lt_succ _) rfl
theorem dX11_fewest_48 : decode cX11_fewest 48 = .ok (.iconst 1, 1) := dz1 (k := 16) (m := 1) dzc1_cX11_fewest_32 di_10 (Nat.zero_lt_succ _) rfl
theorem dX11_fewest_49 : decode cX11_fewest 49 = .ok (.invokevirtual 174, 3) := dz1 (k := 17) (m := 3) dzc1_cX11_fewest_32 di_632 (Nat.zero_lt_succ _) rfl
theorem dX11_fewest_52 : decode cX11_fewest 52 = .ok (.istore 4, 2) := dz1 (k := 20) (m := 2) dzc1_cX11_fewest_32 di_51 (Nat.zero_lt_succ _) rfl
theorem dX11_fewest_54 : decode cX11_fewest 54 = .ok (.iload 4, 2) := dz1 (k := 22) (m := 2) dzc1_cX11_fewest_32 di_52 (Nat.zero_lt_succ _) rfl
theorem dX11_fewest_56 : decode cX11_fewest 56 = .ok (.ifCond .eq 49, 3) := dz1 (k := 24) (m := 3) dzc1_cX11_fewest_32 di_633 (Nat.zero_lt_succ _) rfl
theorem dX11_fewest_59 : decode cX11_fewest 59 = .ok (.aload_n 0, 1) := dz1 (k := 27) (m := 1) dzc1_cX11_fewest_32 di_0 (Nat.zero_lt_succ _) rfl
theorem dX11_fewest_60 : decode cX11_fewest 60 = .ok (.getfield 38, 3) := dz1 (k := 28) (m := 3) dzc1_cX11_fewest_32 di_574 (Nat.zero_lt_succ _) rfl
theorem dX11_fewest_63 : decode cX11_fewest 63 = .ok (.sipush 1312, 3) := dz1 (k := 31) (m := 3) dzc1_cX11_fewest_32 di_616 (Nat.zero_lt_succ _) rfl
set_option maxRecDepth 100000 in
theorem dzc1_cX11_fewest_64 : DzLies cX11_fewest (.mk ⟨[0x05, 0x20, 0x1d, 0x10, 0x08, 0x68, 0x60, 0x07, 0x60, 0x2e, 0x1b, 0xb8, 0x00, 0x8b, 0x99, 0x00, 0x10, 0x2a, 0x1d, 0xb6, 0x00, 0xb2, 0x2a, 0x1c, 0x1d, 0xb6, 0x00, 0xb6, 0x1d, 0xac, 0x2a, 0x1d]⟩) 64 := dz_lies (m := 32) (Nat.zero_lt_succ _) rfl
theorem dX11_fewest_66 : decode cX11_fewest 66 = .ok (.iload_n 3, 1) := dz1 (k := 2) (m := 1) dzc1_cX11_fewest_64 di_3 (Nat.zero_lt_succ _) rfl
theorem dX11_fewest_67 : decode cX11_fewest 67 = .ok (.bipush 8, 2) := dz1 (k := 3) (m := 2) dzc1_cX11_fewest_64 di_184 (Nat.zero_lt_succ _) rfl
theorem dX11_fewest_69 : decode cX11_fewest 69 = .ok (.imul, 1) := dz1 (k := 5) (m := 1) dzc1_cX11_fewest_64 di_113 (Nat.zero_lt_succ _) rfl
theorem dX11_fewest_70 : decode cX11_fewest 70 = .ok (.iadd, 1) := dz1 (k := 6) (m := 1) dzc1_cX11_fewest_64 di_24 (Nat.zero_lt_succ _) rfl
theorem dX11_fewest_71 : decode cX11_fewest 71 = .ok (.iconst 4, 1) := dz1 (k := 7) (m := 1) dzc1_cX11_fewest_64 di_33 (Nat.zero_lt_succ _) rfl
theorem dX11_fewest_72 : decode cX11_fewest 72 = .ok (.iadd, 1) := dz1 (k := 8) (m := 1) dzc1_cX11_fewest_64 di_24 (Nat.zero_lt_succ _) rfl
theorem dX11_fewest_73 : decode cX11_fewest 73 = .ok (.iaload, 1) := dz1 (k := 9) (m := 1) dzc1_cX11_fewest_64 di_30 (Nat.zero_lt_succ _) rfl
theorem dX11_fewest_74 : decode cX11_fewest 74 = .ok (.iload_n 1, 1) := dz1 (k := 10) (m := 1) dzc1_cX11_fewest_64 di_11 (Nat.zero_lt_succ _) rfl
theorem dX11_fewest_75 : decode cX11_fewest 75 = .ok (.invokestatic 139, 3) := dz1 (k := 11) (m := 3) dzc1_cX11_fewest_64 di_587 (Nat.zero_lt_succ _) rfl
theorem dX11_fewest_78 : decode cX11_fewest 78 = .ok (.ifCond .eq 16, 3) := dz1 (k := 14) (m := 3) dzc1_cX11_fewest_64 di_476 (Nat.zero_lt_succ _) rfl
theorem dX11_fewest_81 : decode cX11_fewest 81 = .ok (.aload_n 0, 1) := dz1 (k := 17) (m := 1) dzc1_cX11_fewest_64 di_0 (Nat.zero_lt_succ _) rfl
theorem dX11_fewest_82 : decode cX11_fewest 82 = .ok (.iload_n 3, 1) := dz1 (k := 18) (m := 1) dzc1_cX11_fewest_64 di_3 (Nat.zero_lt_succ _) rfl
theorem dX11_fewest_83 : decode cX11_fewest 83 = .ok (.invokevirtual 178, 3) := dz1 (k := 19) (m := 3) dzc1_cX11_fewest_64 di_634 (Nat.zero_lt_succ _) rfl
theorem dX11_fewest_86 : decode cX11_fewest 86 = .ok (.aload_n 0, 1) := dz1 (k := 22) (m := 1) dzc1_cX11_fewest_64 di_0 (Nat.zero_lt_succ _) rfl
theorem dX11_fewest_87 : decode cX11_fewest 87 = .ok (.iload_n 2, 1) := dz1 (k := 23) (m := 1) dzc1_cX11_fewest_64 di_28 (Nat.zero_lt_succ _) rfl
theorem dX11_fewest_88 : decode cX11_fewest 88 = .ok (.iload_n 3, 1) := dz1 (k := 24) (m := 1) dzc1_cX11_fewest_64 di_3 (Nat.zero_lt_succ _) rfl
theorem dX11_fewest_89 : decode cX11_fewest 89 = .ok (.invokevirtual 182, 3) := dz1 (k := 25) (m := 3) dzc1_cX11_fewest_64 di_635 (Nat.zero_lt_succ _) rfl
theorem dX11_fewest_92 : decode cX11_fewest 92 = .ok (.iload_n 3, 1) := dz1 (k := 28) (m := 1) dzc1_cX11_fewest_64 di_3 (Nat.zero_lt_succ _) rfl
theorem dX11_fewest_93 : decode cX11_fewest 93 = .ok (.ireturn, 1) := dz1 (k := 29) (m := 1) dzc1_cX11_fewest_64 di_13 (Nat.zero_lt_succ _) rfl
theorem dX11_fewest_94 : decode cX11_fewest 94 = .ok (.aload_n 0, 1) := dz1 (k := 30) (m := 1) dzc1_cX11_fewest_64 di_0 (Nat.zero_lt_succ _) rfl
theorem dX11_fewest_95 : decode cX11_fewest 95 = .ok (.iload_n 3, 1) := dz1 (k := 31) (m := 1) dzc1_cX11_fewest_64 di_3 (Nat.zero_lt_succ _) rfl
set_option maxRecDepth 100000 in
theorem dzc1_cX11_fewest_96 : DzLies cX11_fewest (.mk ⟨[0x03, 0xb6, 0x00, 0xae, 0x36, 0x04, 0xa7, 0xff, 0xd0, 0x84, 0x03, 0x01, 0xa7, 0xff, 0xbd, 0x10, 0xf7, 0xac]⟩) 96 := dz_lies (m := 18) (Nat.zero_lt_succ _) rfl
theorem dX11_fewest_96 : decode cX11_fewest 96 = .ok (.iconst 0, 1) := dz1 (k := 0) (m := 1) dzc1_cX11_fewest_96 di_8 (Nat.zero_lt_succ _) rfl
theorem dX11_fewest_97 : decode cX11_fewest 97 = .ok (.invokevirtual 174, 3) := dz1 (k := 1) (m := 3) dzc1_cX11_fewest_96 di_632 (Nat.zero_lt_succ _) rfl
theorem dX11_fewest_100 : decode cX11_fewest 100 = .ok (.istore 4, 2) := dz1 (k := 4) (m := 2) dzc1_cX11_fewest_96 di_51 (Nat.zero_lt_succ _) rfl
theorem dX11_fewest_102 : decode cX11_fewest 102 = .ok (.goto (-48), 3) := dz1 (k := 6) (m := 3) dzc1_cX11_fewest_96 di_366 (Nat.zero_lt_succ _) rfl
theorem dX11_fewest_105 : decode cX11_fewest 105 = .ok (.iinc 3 1, 3) := dz1 (k := 9) (m := 3) dzc1_cX11_fewest_96 di_94 (Nat.zero_lt_succ _) rfl
theorem dX11_fewest_108 : decode cX11_fewest 108 = .ok (.goto (-67), 3) := dz1 (k := 12) (m := 3) dzc1_cX11_fewest_96 di_636 (Nat.zero_lt_succ _) rfl
theorem dX11_fewest_111 : decode cX11_fewest 111 = .ok (.bipush (-9), 2) := dz1 (k := 15) (m := 2) dzc1_cX11_fewest_96 di_102 (Nat.zero_lt_succ _) rfl
theorem dX11_fewest_113 : decode cX11_fewest 113 = .ok (.ireturn, 1) := dz1 (k := 17) (m := 1) dzc1_cX11_fewest_96 di_13 (Nat.zero_lt_succ _) rfl
set_option maxRecDepth 100000 in
theorem dzc1_cX11_most_0 : DzLies cX11_most (.mk ⟨[0x1b, 0x85, 0x09, 0x14, 0x00, 0x9b, 0xb8, 0x00, 0x45, 0x99, 0x00, 0x0b, 0x2a, 0x1c, 0xb6, 0x00, 0x4b, 0x9a, 0x00, 0x05, 0x02, 0xac, 0x2a, 0xb4, 0x00, 0x7c, 0x9a, 0x00, 0x06, 0x10, 0xfc, 0xac]⟩) 0 := dz_lies (m := 32) (Nat.zero_lt_succ _) rfl
theorem dX11_most_0 : decode cX11_most 0 = .ok (.iload_n 1, 1) := dz1 (k := 0) (m := 1) dzc1_cX11_most_0 di_11 (Nat.zero_lt_succ _) rfl
theorem dX11_most_1 : decode cX11_most 1 = .ok (.i2l, 1) := dz1 (k := 1) (m := 1) dzc1_cX11_most_0 di_250 (Nat.zero_lt_succ _) rfl
theorem dX11_most_2 : decode cX11_most 2 = .ok (.lconst 0, 1) := dz1 (k := 2) (m := 1) dzc1_cX11_most_0 di_246 (Nat.zero_lt_succ _) rfl
theorem dX11_most_3 : decode cX11_most 3 = .ok (.ldc2_w 155, 3) := dz1 (k := 3) (m := 3) dzc1_cX11_most_0 di_601 (Nat.zero_lt_succ _) rfl
theorem dX11_most_6 : decode cX11_most 6 = .ok (.invokestatic 69, 3) := dz1 (k := 6) (m := 3) dzc1_cX11_most_0 di_522 (Nat.zero_lt_succ _) rfl
theorem dX11_most_9 : decode cX11_most 9 = .ok (.ifCond .eq 11, 3) := dz1 (k := 9) (m := 3) dzc1_cX11_most_0 di_238 (Nat.zero_lt_succ _) rfl
theorem dX11_most_12 : decode cX11_most 12 = .ok (.aload_n 0, 1) := dz1 (k := 12) (m := 1) dzc1_cX11_most_0 di_0 (Nat.zero_lt_succ _) rfl
theorem dX11_most_13 : decode cX11_most 13 = .ok (.iload_n 2, 1) := dz1 (k := 13) (m := 1) dzc1_cX11_most_0 di_28 (Nat.zero_lt_succ _) rfl
theorem dX11_most_14 : decode cX11_most 14 = .ok (.invokevirtual 75, 3) := dz1 (k := 14) (m := 3) dzc1_cX11_most_0 di_525 (Nat.zero_lt_succ _) rfl
theorem dX11_most_17 : decode cX11_most 17 = .ok (.ifCond .ne 5, 3) := dz1 (k := 17) (m := 3) dzc1_cX11_most_0 di_239 (Nat.zero_lt_succ _) rfl
theorem dX11_most_20 : decode cX11_most 20 = .ok (.iconst (-1), 1) := dz1 (k := 20) (m := 1) dzc1_cX11_most_0 di_65 (Nat.zero_lt_succ _) rfl
theorem dX11_most_21 : decode cX11_most 21 = .ok (.ireturn, 1) := dz1 (k := 21) (m := 1) dzc1_cX11_most_0 di_13 (Nat.zero_lt_succ _) rfl
theorem dX11_most_22 : decode cX11_most 22 = .ok (.aload_n 0, 1) := dz1 (k := 22) (m := 1) dzc1_cX11_most_0 di_0 (Nat.zero_lt_succ _) rfl
theorem dX11_most_23 : decode cX11_most 23 = .ok (.getfield 124, 3) := dz1 (k := 23) (m := 3) dzc1_cX11_most_0 di_572 (Nat.zero_lt_succ _) rfl
theorem dX11_most_26 : decode cX11_most 26 = .ok (.ifCond .ne 6, 3) := dz1 (k := 26) (m := 3) dzc1_cX11_most_0 di_308 (Nat.zero_lt_succ _) rfl
theorem dX11_most_29 : decode cX11_most 29 = .ok (.bipush (-4), 2) := dz1 (k := 29) (m := 2) dzc1_cX11_most_0 di_264 (Nat.zero_lt_succ _) rfl
theorem dX11_most_31 : decode cX11_most 31 = .ok (.ireturn, 1) := dz1 (k := 31) (m := 1) dzc1_cX11_most_0 di_13 (Nat.zero_lt_succ _) rfl
set_option maxRecDepth 100000 in
theorem dzc1_cX11_most_32 : DzLies cX11_most (.mk ⟨[0x1b, 0x2a, 0xb4, 0x00, 0x26, 0x08, 0x2e, 0xb8, 0x00, 0x85, 0xb8, 0x00, 0x65, 0x3e, 0x1d, 0x9a, 0x00, 0x0f, 0x2a, 0xb4, 0x00, 0x26, 0x07, 0x2e, 0xb8, 0x00, 0x85, 0xa7, 0x00, 0x04, 0x02, 0x36, 0x04]⟩) 32 := dz_lies (m := 33) (Nat.zero_lt_succ _) rfl
theorem dX11_most_32 : decode cX11_most 32 = .ok (.iload_n 1, 1) := dz1 (k := 0) (m := 1) dzc1_cX11_most_32 di_11 (Nat.zero_lt_succ _) rfl
theorem dX11_most_33 : decode cX11_most 33 = .ok (.aload_n 0, 1) := dz1 (k := 1) (m := 1) dzc1_cX11_most_32 di_0 (Nat.zero_lt_succ _) rfl
theorem dX11_most_34 : decode cX11_most 34 = .ok (.getfield 38, 3) := dz1 (k := 2) (m := 3) dzc1_cX11_most_32 di_574 (Nat.zero_lt_succ _) rfl
theorem dX11_most_37 : decode cX11_most 37 = .ok (.iconst 5, 1) := dz1 (k := 5) (m := 1) dzc1_cX11_most_32 di_145 (Nat.zero_lt_succ _) rfl
theorem dX11_most_38 : decode cX11_most 38 = .ok (.iaload, 1) := dz1 (k := 6) (m := 1) dzc1_cX11_most_32 di_30 (Nat.zero_lt_succ _) rfl
theorem dX11_most_39 : decode cX11_most 39 = .ok (.invokestatic 133, 3) := dz1 (k := 7) (m := 3) dzc1_cX11_most_32 di_582 (Nat.zero_lt_succ _) rfl
theorem dX11_most_42 : decode cX11_most 42 = .ok (.invokestatic 101, 3) := dz1 (k := 10) (m := 3) dzc1_cX11_most_32 di_557 (Nat.zero_lt_succ _) rfl
theorem dX11_most_45 : decode cX11_most 45 = .ok (.istore_n 3, 1) := dz1 (k := 13) (m := 1) dzc1_cX11_most_32 di_50 (Nat.zero_lt_succ _) rfl
theorem dX11_most_46 : decode cX11_most 46 = .ok (.iload_n 3, 1) := dz1 (k := 14) (m := 1) dzc1_cX11_most_32 di_3 (Nat.zero_lt_succ _) rfl
theorem dX11_most_47 : decode cX11_most 47 = .ok (.ifCond .ne 15, 3) := dz1 (k := 15) (m := 3) dzc1_cX11_most_32 di_637 (Nat.zero_lt_succ _) rfl
theorem dX11_most_50 : decode cX11_most 50 = .ok (.aload_n 0, 1) := dz1 (k := 18) (m := 1) dzc1_cX11_most_32 di_0 (Nat.zero_lt_succ _) rfl
theorem dX11_most_51 : decode cX11_most 51 = .ok (.getfield 38, 3) := dz1 (k := 19) (m := 3) dzc1_cX11_most_32 di_574 (Nat.zero_lt_succ _) rfl
theorem dX11_most_54 : decode cX11_most 54 = .ok (.iconst 4, 1) := dz1 (k := 22) (m := 1) dzc1_cX11_most_32 di_33 (Nat.zero_lt_succ _) rfl
theorem dX11_most_55 : decode cX11_most 55 = .ok (.iaload, 1) := dz1 (k := 23) (m := 1) dzc1_cX11_most_32 di_30 (Nat.zero_lt_succ _) rfl
theorem dX11_most_56 : decode cX11_most 56 = .ok (.invokestatic 133, 3) := dz1 (k := 24) (m := 3) dzc1_cX11_most_32 di_582 (Nat.zero_lt_succ _) rfl
theorem dX11_most_59 : decode cX11_most 59 = .ok (.goto 4, 3) := dz1 (k := 27) (m := 3) dzc1_cX11_most_32 di_49 (Nat.zero_lt_succ _) rfl
theorem dX11_most_62 : decode cX11_most 62 = .ok (.iconst (-1), 1) := dz1 (k := 30) (m := 1) dzc1_cX11_most_32 di_65 (Nat.zero_lt_succ _) rfl
theorem dX11_most_63 : decode cX11_most 63 = .ok (.istore 4, 2) := dz1 (k := 31) (m := 2) dzc1_cX11_most_32 di_51 (Nat.zero_lt_succ _) rfl
set_option maxRecDepth 100000 in
theorem dzc1_cX11_most_64 : DzLies cX11_most (.mk ⟨[0x04, 0x1d, 0x9e, 0x00, 0x10, 0x2a, 0x1d, 0x04, 0xb6, 0x00, 0xae, 0x99, 0x00, 0x07, 0x04, 0xa7, 0x00, 0x04, 0x03, 0x36, 0x05, 0x15, 0x05, 0x99, 0x00, 0x32, 0x2a, 0xb4, 0x00, 0x26, 0x11, 0x05, 0x20]⟩) 64 := dz_lies (m := 33) (Nat.zero_lt_succ _) rfl
theorem dX11_most_65 : decode cX11_most 65 = .ok (.iload_n 3, 1) := dz1 (k := 1) (m := 1) dzc1_cX11_most_64 di_3 (Nat.zero_lt_succ _) rfl
theorem dX11_most_66 : decode cX11_most 66 = .ok (.ifCond .le 16, 3) := dz1 (k := 2) (m := 3) dzc1_cX11_most_64 di_638 (Nat.zero_lt_succ _) rfl
theorem dX11_most_69 : decode cX11_most 69 = .ok (.aload_n 0, 1) := dz1 (k := 5) (m := 1) dzc1_cX11_most_64 di_0 (Nat.zero_lt_succ _) rfl
theorem dX11_most_70 : decode cX11_most 70 = .ok (.iload_n 3, 1) := dz1 (k := 6) (m := 1) dzc1_cX11_most_64 di_3 (Nat.zero_lt_succ _) rfl
theorem dX11_most_71 : decode cX11_most 71 = .ok (.iconst 1, 1) := dz1 (k := 7) (m := 1) dzc1_cX11_most_64 di_10 (Nat.zero_lt_succ _) rfl
theorem dX11_most_72 : decode cX11_most 72 = .ok (.invokevirtual 174, 3) := dz1 (k := 8) (m := 3) dzc1_cX11_most_64 di_632 (Nat.zero_lt_succ _) rfl
theorem dX11_most_75 : decode cX11_most 75 = .ok (.ifCond .eq 7, 3) := dz1 (k := 11) (m := 3) dzc1_cX11_most_64 di_608 (Nat.zero_lt_succ _) rfl
theorem dX11_most_78 : decode cX11_most 78 = .ok (.iconst 1, 1) := dz1 (k := 14) (m := 1) dzc1_cX11_most_64 di_10 (Nat.zero_lt_succ _) rfl
theorem dX11_most_79 : decode cX11_most 79 = .ok (.goto 4, 3) := dz1 (k := 15) (m := 3) dzc1_cX11_most_64 di_49 (Nat.zero_lt_succ _) rfl
theorem dX11_most_82 : decode cX11_most 82 = .ok (.iconst 0, 1) := dz1 (k := 18) (m := 1) dzc1_cX11_most_64 di_8 (Nat.zero_lt_succ _) rfl
theorem dX11_most_83 : decode cX11_most 83 = .ok (.istore 5, 2) := dz1 (k := 19) (m := 2) dzc1_cX11_most_64 di_100 (Nat.zero_lt_succ _) rfl
theorem dX11_most_85 : decode cX11_most 85 = .ok (.iload 5, 2) := dz1 (k := 21) (m := 2) dzc1_cX11_most_64 di_101 (Nat.zero_lt_succ _) rfl
theorem dX11_most_87 : decode cX11_most 87 = .ok (.ifCond .eq 50, 3) := dz1 (k := 23) (m := 3) dzc1_cX11_most_64 di_639 (Nat.zero_lt_succ _) rfl
theorem dX11_most_90 : decode cX11_most 90 = .ok (.aload_n 0, 1) := dz1 (k := 26) (m := 1) dzc1_cX11_most_64 di_0 (Nat.zero_lt_succ _) rfl
theorem dX11_most_91 : decode cX11_most 91 = .ok (.getfield 38, 3) := dz1 (k := 27) (m := 3) dzc1_cX11_most_64 di_574 (Nat.zero_lt_succ _) rfl
theorem dX11_most_94 : decode cX11_most 94 = .ok (.sipush 1312, 3) := dz1 (k := 30) (m := 3) dzc1_cX11_most_64 di_616 (Nat.zero_lt_succ _) rfl
set_option maxRecDepth 100000 in
theorem dzc1_cX11_most_96 : DzLies cX11_most (.mk ⟨[0x20, 0x1d, 0x10, 0x08, 0x68, 0x60, 0x07, 0x60, 0x2e, 0xb8, 0x00, 0x85, 0x36, 0x06, 0x15, 0x06, 0x15, 0x04, 0xa4, 0x00, 0x0c, 0x15, 0x06, 0x36, 0x04, 0x2a, 0x1d, 0xb6, 0x00, 0xb2, 0x2a, 0x1d]⟩) 96 := dz_lies (m := 32) (Nat.zero_lt_succ _) rfl
theorem dX11_most_97 : decode cX11_most 97 = .ok (.iload_n 3, 1) := dz1 (k := 1) (m := 1) dzc1_cX11_most_96 di_3 (Nat.zero_lt_succ _) rfl
theorem dX11_most_98 : decode cX11_most 98 = .ok (.bipush 8, 2) := dz1 (k := 2) (m := 2) dzc1_cX11_most_96 di_184 (Nat.zero_lt_succ _) rfl
theorem dX11_most_100 : decode cX11_most 100 = .ok (.imul, 1) := dz1 (k := 4) (m := 1) dzc1_cX11_most_96 di_113 (Nat.zero_lt_succ _) rfl
theorem dX11_most_101 : decode cX11_most 101 = .ok (.iadd, 1) := dz1 (k := 5) (m := 1) dzc1_cX11_most_96 di_24 (Nat.zero_lt_succ _) rfl
theorem dX11_most_102 : decode cX11_most 102 = .ok (.iconst 4, 1) := dz1 (k := 6) (m := 1) dzc1_cX11_most_96 di_33 (Nat.zero_lt_succ _) rfl
theorem dX11_most_103 : decode cX11_most 103 = .ok (.iadd, 1) := dz1 (k := 7) (m := 1) dzc1_cX11_most_96 di_24 (Nat.zero_lt_succ _) rfl
theorem dX11_most_104 : decode cX11_most 104 = .ok (.iaload, 1) := dz1 (k := 8) (m := 1) dzc1_cX11_most_96 di_30 (Nat.zero_lt_succ _) rfl
theorem dX11_most_105 : decode cX11_most 105 = .ok (.invokestatic 133, 3) := dz1 (k := 9) (m := 3) dzc1_cX11_most_96 di_582 (Nat.zero_lt_succ _) rfl
theorem dX11_most_108 : decode cX11_most 108 = .ok (.istore 6, 2) := dz1 (k := 12) (m := 2) dzc1_cX11_most_96 di_114 (Nat.zero_lt_succ _) rfl
theorem dX11_most_110 : decode cX11_most 110 = .ok (.iload 6, 2) := dz1 (k := 14) (m := 2) dzc1_cX11_most_96 di_115 (Nat.zero_lt_succ _) rfl
theorem dX11_most_112 : decode cX11_most 112 = .ok (.iload 4, 2) := dz1 (k := 16) (m := 2) dzc1_cX11_most_96 di_52 (Nat.zero_lt_succ _) rfl
theorem dX11_most_114 : decode cX11_most 114 = .ok (.if_icmp .le 12, 3) := dz1 (k := 18) (m := 3) dzc1_cX11_most_96 di_640 (Nat.zero_lt_succ _) rfl
theorem dX11_most_117 : decode cX11_most 117 = .ok (.iload 6, 2) := dz1 (k := 21) (m := 2) dzc1_cX11_most_96 di_115 (Nat.zero_lt_succ _) rfl
theorem dX11_most_119 : decode cX11_most 119 = .ok (.istore 4, 2) := dz1 (k := 23) (m := 2) dzc1_cX11_most_96 di_51 (Nat.zero_lt_succ _) rfl
theorem dX11_most_121 : decode cX11_most 121 = .ok (.aload_n 0, 1) := dz1 (k := 25) (m := 1) dzc1_cX11_most_96 di_0 (Nat.zero_lt_succ _) rfl
theorem dX11_most_122 : decode cX11_most 122 = .ok (.iload_n 3, 1) := dz1 (k := 26) (m := 1) dzc1_cX11_most_96 di_3 (Nat.zero_lt_succ _) rfl
theorem dX11_most_123 : decode cX11_most 123 = .ok (.invokevirtual 178, 3) := dz1 (k := 27) (m := 3) dzc1_cX11_most_96 di_634 (Nat.zero_lt_succ _) rfl
theorem dX11_most_126 : decode cX11_most 126 = .ok (.aload_n 0, 1) := dz1 (k := 30) (m := 1) dzc1_cX11_most_96 di_0 (Nat.zero_lt_succ _) rfl
theorem dX11_most_127 : decode cX11_most 127 = .ok (.iload_n 3, 1) := dz1 (k := 31) (m := 1) dzc1_cX11_most_96 di_3 (Nat.zero_lt_succ _) rfl
set_option maxRecDepth 100000 in
theorem dzc1_cX11_most_128 : DzLies cX11_most (.mk ⟨[0x03, 0xb6, 0x00, 0xae, 0x36, 0x05, 0xa7, 0xff, 0xcf, 0x2a, 0x1c, 0x1d, 0xb6, 0x00, 0xb6, 0x15, 0x04, 0xac]⟩) 128 := dz_lies (m := 18) (Nat.zero_lt_succ _) rfl
theorem dX11_most_128 : decode cX11_most 128 = .ok (.iconst 0, 1) := dz1 (k := 0) (m := 1) dzc1_cX11_most_128 di_8 (Nat.zero_lt_succ _) rfl
theorem dX11_most_129 : decode cX11_most 129 = .ok (.invokevirtual 174, 3) := dz1 (k := 1) (m := 3) dzc1_cX11_most_128 di_632 (Nat.zero_lt_succ _) rfl
theorem dX11_most_132 : decode cX11_most 132 = .ok (.istore 5, 2) := dz1 (k := 4) (m := 2) dzc1_cX11_most_128 di_100 (Nat.zero_lt_succ _) rfl
theorem dX11_most_134 : decode cX11_most 134 = .ok (.goto (-49), 3) := dz1 (k := 6) (m := 3) dzc1_cX11_most_128 di_356 (Nat.zero_lt_succ _) rfl
theorem dX11_most_137 : decode cX11_most 137 = .ok (.aload_n 0, 1) := dz1 (k := 9) (m := 1) dzc1_cX11_most_128 di_0 (Nat.zero_lt_succ _) rfl
theorem dX11_most_138 : decode cX11_most 138 = .ok (.iload_n 2, 1) := dz1 (k := 10) (m := 1) dzc1_cX11_most_128 di_28 (Nat.zero_lt_succ _) rfl
theorem dX11_most_139 : decode cX11_most 139 = .ok (.iload_n 3, 1) := dz1 (k := 11) (m := 1) dzc1_cX11_most_128 di_3 (Nat.zero_lt_succ _) rfl
theorem dX11_most_140 : decode cX11_most 140 = .ok (.invokevirtual 182, 3) := dz1 (k := 12) (m := 3) dzc1_cX11_most_128 di_635 (Nat.zero_lt_succ _) rfl
theorem dX11_most_143 : decode cX11_most 143 = .ok (.iload 4, 2) := dz1 (k := 15) (m := 2) dzc1_cX11_most_128 di_52 (Nat.zero_lt_succ _) rfl
theorem dX11_most_145 : decode cX11_most 145 = .ok (.ireturn, 1) := dz1 (k := 17) (m := 1) dzc1_cX11_most_128 di_13 (Nat.zero_lt_succ _) rfl
set_option maxRecDepth 100000 in
theorem dzc1_cX11_which_0 : DzLies cX11_which (.mk ⟨[0x2a, 0x1b, 0xb6, 0x00, 0x98, 0x99, 0x00, 0x0f, 0x1c, 0x85, 0x09, 0x14, 0x00, 0xb9, 0xb8, 0x00, 0x45, 0x9a, 0x00, 0x05, 0x02, 0xac, 0x03, 0x3e, 0x04, 0x36, 0x04, 0x15, 0x04, 0x10, 0x0d, 0xa2, 0x00, 0x4f]⟩) 0 := dz_lies (m := 34) (Nat.zero_lt_succ _) rfl
theorem dX11_which_0 : decode cX11_which 0 = .ok (.aload_n 0, 1) := dz1 (k := 0) (m := 1) dzc1_cX11_which_0 di_0 (Nat.zero_lt_succ _) rfl
theorem dX11_which_1 : decode cX11_which 1 = .ok (.iload_n 1, 1) := dz1 (k := 1) (m := 1) dzc1_cX11_which_0 di_11 (Nat.zero_lt_succ _) rfl
theorem dX11_which_2 : decode cX11_which 2 = .ok (.invokevirtual 152, 3) := dz1 (k := 2) (m := 3) dzc1_cX11_which_0 di_600 (Nat.zero_lt_succ _) rfl
theorem dX11_which_5 : decode cX11_which 5 = .ok (.ifCond .eq 15, 3) := dz1 (k := 5) (m := 3) dzc1_cX11_which_0 di_242 (Nat.zero_lt_succ _) rfl
theorem dX11_which_8 : decode cX11_which 8 = .ok (.iload_n 2, 1) := dz1 (k := 8) (m := 1) dzc1_cX11_which_0 di_28 (Nat.zero_lt_succ _) rfl
theorem dX11_which_9 : decode cX11_which 9 = .ok (.i2l, 1) := dz1 (k := 9) (m := 1) dzc1_cX11_which_0 di_250 (Nat.zero_lt_succ _) rfl
theorem dX11_which_10 : decode cX11_which 10 = .ok (.lconst 0, 1) := dz1 (k := 10) (m := 1) dzc1_cX11_which_0 di_246 (Nat.zero_lt_succ _) rfl
theorem dX11_which_11 : decode cX11_which 11 = .ok (.ldc2_w 185, 3) := dz1 (k := 11) (m := 3) dzc1_cX11_which_0 di_641 (Nat.zero_lt_succ _) rfl
theorem dX11_which_14 : decode cX11_which 14 = .ok (.invokestatic 69, 3) := dz1 (k := 14) (m := 3) dzc1_cX11_which_0 di_522 (Nat.zero_lt_succ _) rfl
theorem dX11_which_17 : decode cX11_which 17 = .ok (.ifCond .ne 5, 3) := dz1 (k := 17) (m := 3) dzc1_cX11_which_0 di_239 (Nat.zero_lt_succ _) rfl
theorem dX11_which_20 : decode cX11_which 20 = .ok (.iconst (-1), 1) := dz1 (k := 20) (m := 1) dzc1_cX11_which_0 di_65 (Nat.zero_lt_succ _) rfl
theorem dX11_which_21 : decode cX11_which 21 = .ok (.ireturn, 1) := dz1 (k := 21) (m := 1) dzc1_cX11_which_0 di_13 (Nat.zero_lt_succ _) rfl
theorem dX11_which_22 : decode cX11_which 22 = .ok (.iconst 0, 1) := dz1 (k := 22) (m := 1) dzc1_cX11_which_0 di_8 (Nat.zero_lt_succ _) rfl
theorem dX11_which_23 : decode cX11_which 23 = .ok (.istore_n 3, 1) := dz1 (k := 23) (m := 1) dzc1_cX11_which_0 di_50 (Nat.zero_lt_succ _) rfl
theorem dX11_which_24 : decode cX11_which 24 = .ok (.iconst 1, 1) := dz1 (k := 24) (m := 1) dzc1_cX11_which_0 di_10 (Nat.zero_lt_succ _) rfl
theorem dX11_which_25 : decode cX11_which 25 = .ok (.istore 4, 2) := dz1 (k := 25) (m := 2) dzc1_cX11_which_0 di_51 (Nat.zero_lt_succ _) rfl
theorem dX11_which_27 : decode cX11_which 27 = .ok (.iload 4, 2) := dz1 (k := 27) (m := 2) dzc1_cX11_which_0 di_52 (Nat.zero_lt_succ _) rfl
theorem dX11_which_29 : decode cX11_which 29 = .ok (.bipush 13, 2) := dz1 (k := 29) (m := 2) dzc1_cX11_which_0 di_621 (Nat.zero_lt_succ _) rfl
theorem dX11_which_31 : decode cX11_which 31 = .ok (.if_icmp .ge 79, 3) := dz1 (k := 31) (m := 3) dzc1_cX11_which_0 di_642 (Nat.zero_lt_succ _) rfl
set_option maxRecDepth 100000 in
theorem dzc1_cX11_which_32 : DzLies cX11_which (.mk ⟨[0x00, 0x4f, 0x2a, 0xb4, 0x00, 0x26, 0x1b, 0x2e, 0x2a, 0x1b, 0x2a, 0xb4, 0x00, 0x1a, 0x1b, 0x2e, 0x15, 0x04, 0x2a, 0xb4, 0x00, 0x26, 0x10, 0x07, 0x2e, 0x2a, 0xb4, 0x00, 0x26, 0x10, 0x06, 0x2e]⟩) 32 := dz_lies (m := 32) (Nat.zero_lt_succ _) rfl
theorem dX11_which_34 : decode cX11_which 34 = .ok (.aload_n 0, 1) := dz1 (k := 2) (m := 1) dzc1_cX11_which_32 di_0 (Nat.zero_lt_succ _) rfl
theorem dX11_which_35 : decode cX11_which 35 = .ok (.getfield 38, 3) := dz1 (k := 3) (m := 3) dzc1_cX11_which_32 di_574 (Nat.zero_lt_succ _) rfl
theorem dX11_which_38 : decode cX11_which 38 = .ok (.iload_n 1, 1) := dz1 (k := 6) (m := 1) dzc1_cX11_which_32 di_11 (Nat.zero_lt_succ _) rfl
theorem dX11_which_39 : decode cX11_which 39 = .ok (.iaload, 1) := dz1 (k := 7) (m := 1) dzc1_cX11_which_32 di_30 (Nat.zero_lt_succ _) rfl
theorem dX11_which_40 : decode cX11_which 40 = .ok (.aload_n 0, 1) := dz1 (k := 8) (m := 1) dzc1_cX11_which_32 di_0 (Nat.zero_lt_succ _) rfl
theorem dX11_which_41 : decode cX11_which 41 = .ok (.iload_n 1, 1) := dz1 (k := 9) (m := 1) dzc1_cX11_which_32 di_11 (Nat.zero_lt_succ _) rfl
theorem dX11_which_42 : decode cX11_which 42 = .ok (.aload_n 0, 1) := dz1 (k := 10) (m := 1) dzc1_cX11_which_32 di_0 (Nat.zero_lt_succ _) rfl
theorem dX11_which_43 : decode cX11_which 43 = .ok (.getfield 26, 3) := dz1 (k := 11) (m := 3) dzc1_cX11_which_32 di_573 (Nat.zero_lt_succ _) rfl
theorem dX11_which_46 : decode cX11_which 46 = .ok (.iload_n 1, 1) := dz1 (k := 14) (m := 1) dzc1_cX11_which_32 di_11 (Nat.zero_lt_succ _) rfl
theorem dX11_which_47 : decode cX11_which 47 = .ok (.iaload, 1) := dz1 (k := 15) (m := 1) dzc1_cX11_which_32 di_30 (Nat.zero_lt_succ _) rfl
theorem dX11_which_48 : decode cX11_which 48 = .ok (.iload 4, 2) := dz1 (k := 16) (m := 2) dzc1_cX11_which_32 di_52 (Nat.zero_lt_succ _) rfl
theorem dX11_which_50 : decode cX11_which 50 = .ok (.aload_n 0, 1) := dz1 (k := 18) (m := 1) dzc1_cX11_which_32 di_0 (Nat.zero_lt_succ _) rfl
theorem dX11_which_51 : decode cX11_which 51 = .ok (.getfield 38, 3) := dz1 (k := 19) (m := 3) dzc1_cX11_which_32 di_574 (Nat.zero_lt_succ _) rfl
theorem dX11_which_54 : decode cX11_which 54 = .ok (.bipush 7, 2) := dz1 (k := 22) (m := 2) dzc1_cX11_which_32 di_83 (Nat.zero_lt_succ _) rfl
theorem dX11_which_56 : decode cX11_which 56 = .ok (.iaload, 1) := dz1 (k := 24) (m := 1) dzc1_cX11_which_32 di_30 (Nat.zero_lt_succ _) rfl
theorem dX11_which_57 : decode cX11_which 57 = .ok (.aload_n 0, 1) := dz1 (k := 25) (m := 1) dzc1_cX11_which_32 di_0 (Nat.zero_lt_succ _) rfl
theorem dX11_which_58 : decode cX11_which 58 = .ok (.getfield 38, 3) := dz1 (k := 26) (m := 3) dzc1_cX11_which_32 di_574 (Nat.zero_lt_succ _) rfl
theorem dX11_which_61 : decode cX11_which 61 = .ok (.bipush 6, 2) := dz1 (k := 29) (m := 2) dzc1_cX11_which_32 di_86 (Nat.zero_lt_succ _) rfl
theorem dX11_which_63 : decode cX11_which 63 = .ok (.iaload, 1) := dz1 (k := 31) (m := 1) dzc1_cX11_which_32 di_30 (Nat.zero_lt_succ _) rfl
set_option maxRecDepth 100000 in
theorem dzc1_cX11_which_64 : DzLies cX11_which (.mk ⟨[0xb8, 0x00, 0x8e, 0xb6, 0x00, 0x92, 0x80, 0x36, 0x05, 0x1d, 0x2a, 0xb4, 0x00, 0x26, 0x08, 0x2e, 0x15, 0x04, 0xb8, 0x00, 0x8b, 0x99, 0x00, 0x10, 0x15, 0x05, 0x1c, 0xa0, 0x00, 0x0a, 0x04, 0x15, 0x04]⟩) 64 := dz_lies (m := 33) (Nat.zero_lt_succ _) rfl
theorem dX11_which_64 : decode cX11_which 64 = .ok (.invokestatic 142, 3) := dz1 (k := 0) (m := 3) dzc1_cX11_which_64 di_590 (Nat.zero_lt_succ _) rfl
theorem dX11_which_67 : decode cX11_which 67 = .ok (.invokevirtual 146, 3) := dz1 (k := 3) (m := 3) dzc1_cX11_which_64 di_591 (Nat.zero_lt_succ _) rfl
theorem dX11_which_70 : decode cX11_which 70 = .ok (.ior, 1) := dz1 (k := 6) (m := 1) dzc1_cX11_which_64 di_62 (Nat.zero_lt_succ _) rfl
theorem dX11_which_71 : decode cX11_which 71 = .ok (.istore 5, 2) := dz1 (k := 7) (m := 2) dzc1_cX11_which_64 di_100 (Nat.zero_lt_succ _) rfl
theorem dX11_which_73 : decode cX11_which 73 = .ok (.iload_n 3, 1) := dz1 (k := 9) (m := 1) dzc1_cX11_which_64 di_3 (Nat.zero_lt_succ _) rfl
theorem dX11_which_74 : decode cX11_which 74 = .ok (.aload_n 0, 1) := dz1 (k := 10) (m := 1) dzc1_cX11_which_64 di_0 (Nat.zero_lt_succ _) rfl
theorem dX11_which_75 : decode cX11_which 75 = .ok (.getfield 38, 3) := dz1 (k := 11) (m := 3) dzc1_cX11_which_64 di_574 (Nat.zero_lt_succ _) rfl
theorem dX11_which_78 : decode cX11_which 78 = .ok (.iconst 5, 1) := dz1 (k := 14) (m := 1) dzc1_cX11_which_64 di_145 (Nat.zero_lt_succ _) rfl
theorem dX11_which_79 : decode cX11_which 79 = .ok (.iaload, 1) := dz1 (k := 15) (m := 1) dzc1_cX11_which_64 di_30 (Nat.zero_lt_succ _) rfl
theorem dX11_which_80 : decode cX11_which 80 = .ok (.iload 4, 2) := dz1 (k := 16) (m := 2) dzc1_cX11_which_64 di_52 (Nat.zero_lt_succ _) rfl
theorem dX11_which_82 : decode cX11_which 82 = .ok (.invokestatic 139, 3) := dz1 (k := 18) (m := 3) dzc1_cX11_which_64 di_587 (Nat.zero_lt_succ _) rfl
theorem dX11_which_85 : decode cX11_which 85 = .ok (.ifCond .eq 16, 3) := dz1 (k := 21) (m := 3) dzc1_cX11_which_64 di_476 (Nat.zero_lt_succ _) rfl
theorem dX11_which_88 : decode cX11_which 88 = .ok (.iload 5, 2) := dz1 (k := 24) (m := 2) dzc1_cX11_which_64 di_101 (Nat.zero_lt_succ _) rfl
theorem dX11_which_90 : decode cX11_which 90 = .ok (.iload_n 2, 1) := dz1 (k := 26) (m := 1) dzc1_cX11_which_64 di_28 (Nat.zero_lt_succ _) rfl
theorem dX11_which_91 : decode cX11_which 91 = .ok (.if_icmp .ne 10, 3) := dz1 (k := 27) (m := 3) dzc1_cX11_which_64 di_340 (Nat.zero_lt_succ _) rfl
theorem dX11_which_94 : decode cX11_which 94 = .ok (.iconst 1, 1) := dz1 (k := 30) (m := 1) dzc1_cX11_which_64 di_10 (Nat.zero_lt_succ _) rfl
theorem dX11_which_95 : decode cX11_which 95 = .ok (.iload 4, 2) := dz1 (k := 31) (m := 2) dzc1_cX11_which_64 di_52 (Nat.zero_lt_succ _) rfl
set_option maxRecDepth 100000 in
theorem dzc1_cX11_which_96 : DzLies cX11_which (.mk ⟨[0x04, 0x78, 0xa7, 0x00, 0x04, 0x03, 0x80, 0x3e, 0x84, 0x04, 0x01, 0xa7, 0xff, 0xb0, 0x1d, 0xac]⟩) 96 := dz_lies (m := 16) (Nat.zero_lt_succ _) rfl
theorem dX11_which_97 : decode cX11_which 97 = .ok (.ishl, 1) := dz1 (k := 1) (m := 1) dzc1_cX11_which_96 di_12 (Nat.zero_lt_succ _) rfl
theorem dX11_which_98 : decode cX11_which 98 = .ok (.goto 4, 3) := dz1 (k := 2) (m := 3) dzc1_cX11_which_96 di_49 (Nat.zero_lt_succ _) rfl
theorem dX11_which_101 : decode cX11_which 101 = .ok (.iconst 0, 1) := dz1 (k := 5) (m := 1) dzc1_cX11_which_96 di_8 (Nat.zero_lt_succ _) rfl
theorem dX11_which_102 : decode cX11_which 102 = .ok (.ior, 1) := dz1 (k := 6) (m := 1) dzc1_cX11_which_96 di_62 (Nat.zero_lt_succ _) rfl
theorem dX11_which_103 : decode cX11_which 103 = .ok (.istore_n 3, 1) := dz1 (k := 7) (m := 1) dzc1_cX11_which_96 di_50 (Nat.zero_lt_succ _) rfl
theorem dX11_which_104 : decode cX11_which 104 = .ok (.iinc 4 1, 3) := dz1 (k := 8) (m := 3) dzc1_cX11_which_96 di_63 (Nat.zero_lt_succ _) rfl
theorem dX11_which_107 : decode cX11_which 107 = .ok (.goto (-80), 3) := dz1 (k := 11) (m := 3) dzc1_cX11_which_96 di_405 (Nat.zero_lt_succ _) rfl
theorem dX11_which_110 : decode cX11_which 110 = .ok (.iload_n 3, 1) := dz1 (k := 14) (m := 1) dzc1_cX11_which_96 di_3 (Nat.zero_lt_succ _) rfl
theorem dX11_which_111 : decode cX11_which 111 = .ok (.ireturn, 1) := dz1 (k := 15) (m := 1) dzc1_cX11_which_96 di_13 (Nat.zero_lt_succ _) rfl
set_option maxRecDepth 100000 in
theorem dzc1_cX11_wrongOf_0 : DzLies cX11_wrongOf (.mk ⟨[0x2a, 0xb4, 0x00, 0x07, 0x1b, 0x2e, 0x9c, 0x00, 0x05, 0x04, 0xac, 0x2a, 0xb4, 0x00, 0x07, 0x1b, 0x2e, 0x10, 0x10, 0xa3, 0x00, 0x0f, 0x2a, 0xb4, 0x00, 0x07, 0x1b, 0x2e, 0x05, 0x70, 0x04, 0xa0, 0x00, 0x05]⟩) 0 := dz_lies (m := 34) (Nat.zero_lt_succ _) rfl
theorem dX11_wrongOf_0 : decode cX11_wrongOf 0 = .ok (.aload_n 0, 1) := dz1 (k := 0) (m := 1) dzc1_cX11_wrongOf_0 di_0 (Nat.zero_lt_succ _) rfl
theorem dX11_wrongOf_1 : decode cX11_wrongOf 1 = .ok (.getfield 7, 3) := dz1 (k := 1) (m := 3) dzc1_cX11_wrongOf_0 di_514 (Nat.zero_lt_succ _) rfl
theorem dX11_wrongOf_4 : decode cX11_wrongOf 4 = .ok (.iload_n 1, 1) := dz1 (k := 4) (m := 1) dzc1_cX11_wrongOf_0 di_11 (Nat.zero_lt_succ _) rfl
theorem dX11_wrongOf_5 : decode cX11_wrongOf 5 = .ok (.iaload, 1) := dz1 (k := 5) (m := 1) dzc1_cX11_wrongOf_0 di_30 (Nat.zero_lt_succ _) rfl
theorem dX11_wrongOf_6 : decode cX11_wrongOf 6 = .ok (.ifCond .ge 5, 3) := dz1 (k := 6) (m := 3) dzc1_cX11_wrongOf_0 di_643 (Nat.zero_lt_succ _) rfl
theorem dX11_wrongOf_9 : decode cX11_wrongOf 9 = .ok (.iconst 1, 1) := dz1 (k := 9) (m := 1) dzc1_cX11_wrongOf_0 di_10 (Nat.zero_lt_succ _) rfl
theorem dX11_wrongOf_10 : decode cX11_wrongOf 10 = .ok (.ireturn, 1) := dz1 (k := 10) (m := 1) dzc1_cX11_wrongOf_0 di_13 (Nat.zero_lt_succ _) rfl
theorem dX11_wrongOf_11 : decode cX11_wrongOf 11 = .ok (.aload_n 0, 1) := dz1 (k := 11) (m := 1) dzc1_cX11_wrongOf_0 di_0 (Nat.zero_lt_succ _) rfl
theorem dX11_wrongOf_12 : decode cX11_wrongOf 12 = .ok (.getfield 7, 3) := dz1 (k := 12) (m := 3) dzc1_cX11_wrongOf_0 di_514 (Nat.zero_lt_succ _) rfl
theorem dX11_wrongOf_15 : decode cX11_wrongOf 15 = .ok (.iload_n 1, 1) := dz1 (k := 15) (m := 1) dzc1_cX11_wrongOf_0 di_11 (Nat.zero_lt_succ _) rfl
theorem dX11_wrongOf_16 : decode cX11_wrongOf 16 = .ok (.iaload, 1) := dz1 (k := 16) (m := 1) dzc1_cX11_wrongOf_0 di_30 (Nat.zero_lt_succ _) rfl
theorem dX11_wrongOf_17 : decode cX11_wrongOf 17 = .ok (.bipush 16, 2) := dz1 (k := 17) (m := 2) dzc1_cX11_wrongOf_0 di_185 (Nat.zero_lt_succ _) rfl
theorem dX11_wrongOf_19 : decode cX11_wrongOf 19 = .ok (.if_icmp .gt 15, 3) := dz1 (k := 19) (m := 3) dzc1_cX11_wrongOf_0 di_644 (Nat.zero_lt_succ _) rfl
theorem dX11_wrongOf_22 : decode cX11_wrongOf 22 = .ok (.aload_n 0, 1) := dz1 (k := 22) (m := 1) dzc1_cX11_wrongOf_0 di_0 (Nat.zero_lt_succ _) rfl
theorem dX11_wrongOf_23 : decode cX11_wrongOf 23 = .ok (.getfield 7, 3) := dz1 (k := 23) (m := 3) dzc1_cX11_wrongOf_0 di_514 (Nat.zero_lt_succ _) rfl
theorem dX11_wrongOf_26 : decode cX11_wrongOf 26 = .ok (.iload_n 1, 1) := dz1 (k := 26) (m := 1) dzc1_cX11_wrongOf_0 di_11 (Nat.zero_lt_succ _) rfl
theorem dX11_wrongOf_27 : decode cX11_wrongOf 27 = .ok (.iaload, 1) := dz1 (k := 27) (m := 1) dzc1_cX11_wrongOf_0 di_30 (Nat.zero_lt_succ _) rfl
theorem dX11_wrongOf_28 : decode cX11_wrongOf 28 = .ok (.iconst 2, 1) := dz1 (k := 28) (m := 1) dzc1_cX11_wrongOf_0 di_6 (Nat.zero_lt_succ _) rfl
theorem dX11_wrongOf_29 : decode cX11_wrongOf 29 = .ok (.irem, 1) := dz1 (k := 29) (m := 1) dzc1_cX11_wrongOf_0 di_5 (Nat.zero_lt_succ _) rfl
theorem dX11_wrongOf_30 : decode cX11_wrongOf 30 = .ok (.iconst 1, 1) := dz1 (k := 30) (m := 1) dzc1_cX11_wrongOf_0 di_10 (Nat.zero_lt_succ _) rfl
theorem dX11_wrongOf_31 : decode cX11_wrongOf 31 = .ok (.if_icmp .ne 5, 3) := dz1 (k := 31) (m := 3) dzc1_cX11_wrongOf_0 di_110 (Nat.zero_lt_succ _) rfl
set_option maxRecDepth 100000 in
theorem dzc1_cX11_wrongOf_32 : DzLies cX11_wrongOf (.mk ⟨[0x00, 0x05, 0x08, 0xac, 0x03, 0x3d, 0x1c, 0x2a, 0xb4, 0x00, 0x07, 0x1b, 0x2e, 0xa2, 0x00, 0x37, 0x2a, 0xb4, 0x00, 0x0d, 0x10, 0x28, 0x1b, 0x68, 0x1c, 0x60, 0x2e, 0x85, 0x1c, 0x05, 0x70, 0x9a, 0x00, 0x07]⟩) 32 := dz_lies (m := 34) (Nat.zero_lt_succ _) rfl
theorem dX11_wrongOf_34 : decode cX11_wrongOf 34 = .ok (.iconst 5, 1) := dz1 (k := 2) (m := 1) dzc1_cX11_wrongOf_32 di_145 (Nat.zero_lt_succ _) rfl
theorem dX11_wrongOf_35 : decode cX11_wrongOf 35 = .ok (.ireturn, 1) := dz1 (k := 3) (m := 1) dzc1_cX11_wrongOf_32 di_13 (Nat.zero_lt_succ _) rfl
theorem dX11_wrongOf_36 : decode cX11_wrongOf 36 = .ok (.iconst 0, 1) := dz1 (k := 4) (m := 1) dzc1_cX11_wrongOf_32 di_8 (Nat.zero_lt_succ _) rfl
theorem dX11_wrongOf_37 : decode cX11_wrongOf 37 = .ok (.istore_n 2, 1) := dz1 (k := 5) (m := 1) dzc1_cX11_wrongOf_32 di_27 (Nat.zero_lt_succ _) rfl
theorem dX11_wrongOf_38 : decode cX11_wrongOf 38 = .ok (.iload_n 2, 1) := dz1 (k := 6) (m := 1) dzc1_cX11_wrongOf_32 di_28 (Nat.zero_lt_succ _) rfl
theorem dX11_wrongOf_39 : decode cX11_wrongOf 39 = .ok (.aload_n 0, 1) := dz1 (k := 7) (m := 1) dzc1_cX11_wrongOf_32 di_0 (Nat.zero_lt_succ _) rfl
theorem dX11_wrongOf_40 : decode cX11_wrongOf 40 = .ok (.getfield 7, 3) := dz1 (k := 8) (m := 3) dzc1_cX11_wrongOf_32 di_514 (Nat.zero_lt_succ _) rfl
theorem dX11_wrongOf_43 : decode cX11_wrongOf 43 = .ok (.iload_n 1, 1) := dz1 (k := 11) (m := 1) dzc1_cX11_wrongOf_32 di_11 (Nat.zero_lt_succ _) rfl
theorem dX11_wrongOf_44 : decode cX11_wrongOf 44 = .ok (.iaload, 1) := dz1 (k := 12) (m := 1) dzc1_cX11_wrongOf_32 di_30 (Nat.zero_lt_succ _) rfl
theorem dX11_wrongOf_45 : decode cX11_wrongOf 45 = .ok (.if_icmp .ge 55, 3) := dz1 (k := 13) (m := 3) dzc1_cX11_wrongOf_32 di_645 (Nat.zero_lt_succ _) rfl
theorem dX11_wrongOf_48 : decode cX11_wrongOf 48 = .ok (.aload_n 0, 1) := dz1 (k := 16) (m := 1) dzc1_cX11_wrongOf_32 di_0 (Nat.zero_lt_succ _) rfl
theorem dX11_wrongOf_49 : decode cX11_wrongOf 49 = .ok (.getfield 13, 3) := dz1 (k := 17) (m := 3) dzc1_cX11_wrongOf_32 di_524 (Nat.zero_lt_succ _) rfl
theorem dX11_wrongOf_52 : decode cX11_wrongOf 52 = .ok (.bipush 40, 2) := dz1 (k := 20) (m := 2) dzc1_cX11_wrongOf_32 di_16 (Nat.zero_lt_succ _) rfl
theorem dX11_wrongOf_54 : decode cX11_wrongOf 54 = .ok (.iload_n 1, 1) := dz1 (k := 22) (m := 1) dzc1_cX11_wrongOf_32 di_11 (Nat.zero_lt_succ _) rfl
theorem dX11_wrongOf_55 : decode cX11_wrongOf 55 = .ok (.imul, 1) := dz1 (k := 23) (m := 1) dzc1_cX11_wrongOf_32 di_113 (Nat.zero_lt_succ _) rfl
theorem dX11_wrongOf_56 : decode cX11_wrongOf 56 = .ok (.iload_n 2, 1) := dz1 (k := 24) (m := 1) dzc1_cX11_wrongOf_32 di_28 (Nat.zero_lt_succ _) rfl
theorem dX11_wrongOf_57 : decode cX11_wrongOf 57 = .ok (.iadd, 1) := dz1 (k := 25) (m := 1) dzc1_cX11_wrongOf_32 di_24 (Nat.zero_lt_succ _) rfl
theorem dX11_wrongOf_58 : decode cX11_wrongOf 58 = .ok (.iaload, 1) := dz1 (k := 26) (m := 1) dzc1_cX11_wrongOf_32 di_30 (Nat.zero_lt_succ _) rfl
theorem dX11_wrongOf_59 : decode cX11_wrongOf 59 = .ok (.i2l, 1) := dz1 (k := 27) (m := 1) dzc1_cX11_wrongOf_32 di_250 (Nat.zero_lt_succ _) rfl
theorem dX11_wrongOf_60 : decode cX11_wrongOf 60 = .ok (.iload_n 2, 1) := dz1 (k := 28) (m := 1) dzc1_cX11_wrongOf_32 di_28 (Nat.zero_lt_succ _) rfl
theorem dX11_wrongOf_61 : decode cX11_wrongOf 61 = .ok (.iconst 2, 1) := dz1 (k := 29) (m := 1) dzc1_cX11_wrongOf_32 di_6 (Nat.zero_lt_succ _) rfl
theorem dX11_wrongOf_62 : decode cX11_wrongOf 62 = .ok (.irem, 1) := dz1 (k := 30) (m := 1) dzc1_cX11_wrongOf_32 di_5 (Nat.zero_lt_succ _) rfl
theorem dX11_wrongOf_63 : decode cX11_wrongOf 63 = .ok (.ifCond .ne 7, 3) := dz1 (k := 31) (m := 3) dzc1_cX11_wrongOf_32 di_37 (Nat.zero_lt_succ _) rfl
set_option maxRecDepth 100000 in
theorem dzc1_cX11_wrongOf_64 : DzLies cX11_wrongOf (.mk ⟨[0x00, 0x07, 0x0a, 0xa7, 0x00, 0x04, 0x09, 0x1c, 0x05, 0x70, 0x9a, 0x00, 0x09, 0x14, 0x00, 0x69, 0xa7, 0x00, 0x06, 0x14, 0x00, 0xbb, 0xb8, 0x00, 0x45, 0x9a, 0x00, 0x05, 0x06, 0xac, 0x84, 0x02, 0x01]⟩) 64 := dz_lies (m := 33) (Nat.zero_lt_succ _) rfl
theorem dX11_wrongOf_66 : decode cX11_wrongOf 66 = .ok (.lconst 1, 1) := dz1 (k := 2) (m := 1) dzc1_cX11_wrongOf_64 di_217 (Nat.zero_lt_succ _) rfl
theorem dX11_wrongOf_67 : decode cX11_wrongOf 67 = .ok (.goto 4, 3) := dz1 (k := 3) (m := 3) dzc1_cX11_wrongOf_64 di_49 (Nat.zero_lt_succ _) rfl
theorem dX11_wrongOf_70 : decode cX11_wrongOf 70 = .ok (.lconst 0, 1) := dz1 (k := 6) (m := 1) dzc1_cX11_wrongOf_64 di_246 (Nat.zero_lt_succ _) rfl
theorem dX11_wrongOf_71 : decode cX11_wrongOf 71 = .ok (.iload_n 2, 1) := dz1 (k := 7) (m := 1) dzc1_cX11_wrongOf_64 di_28 (Nat.zero_lt_succ _) rfl
theorem dX11_wrongOf_72 : decode cX11_wrongOf 72 = .ok (.iconst 2, 1) := dz1 (k := 8) (m := 1) dzc1_cX11_wrongOf_64 di_6 (Nat.zero_lt_succ _) rfl
theorem dX11_wrongOf_73 : decode cX11_wrongOf 73 = .ok (.irem, 1) := dz1 (k := 9) (m := 1) dzc1_cX11_wrongOf_64 di_5 (Nat.zero_lt_succ _) rfl
theorem dX11_wrongOf_74 : decode cX11_wrongOf 74 = .ok (.ifCond .ne 9, 3) := dz1 (k := 10) (m := 3) dzc1_cX11_wrongOf_64 di_243 (Nat.zero_lt_succ _) rfl
theorem dX11_wrongOf_77 : decode cX11_wrongOf 77 = .ok (.ldc2_w 105, 3) := dz1 (k := 13) (m := 3) dzc1_cX11_wrongOf_64 di_559 (Nat.zero_lt_succ _) rfl
theorem dX11_wrongOf_80 : decode cX11_wrongOf 80 = .ok (.goto 6, 3) := dz1 (k := 16) (m := 3) dzc1_cX11_wrongOf_64 di_9 (Nat.zero_lt_succ _) rfl
theorem dX11_wrongOf_83 : decode cX11_wrongOf 83 = .ok (.ldc2_w 187, 3) := dz1 (k := 19) (m := 3) dzc1_cX11_wrongOf_64 di_646 (Nat.zero_lt_succ _) rfl
theorem dX11_wrongOf_86 : decode cX11_wrongOf 86 = .ok (.invokestatic 69, 3) := dz1 (k := 22) (m := 3) dzc1_cX11_wrongOf_64 di_522 (Nat.zero_lt_succ _) rfl
theorem dX11_wrongOf_89 : decode cX11_wrongOf 89 = .ok (.ifCond .ne 5, 3) := dz1 (k := 25) (m := 3) dzc1_cX11_wrongOf_64 di_239 (Nat.zero_lt_succ _) rfl
theorem dX11_wrongOf_92 : decode cX11_wrongOf 92 = .ok (.iconst 3, 1) := dz1 (k := 28) (m := 1) dzc1_cX11_wrongOf_64 di_4 (Nat.zero_lt_succ _) rfl
theorem dX11_wrongOf_93 : decode cX11_wrongOf 93 = .ok (.ireturn, 1) := dz1 (k := 29) (m := 1) dzc1_cX11_wrongOf_64 di_13 (Nat.zero_lt_succ _) rfl
theorem dX11_wrongOf_94 : decode cX11_wrongOf 94 = .ok (.iinc 2 1, 3) := dz1 (k := 30) (m := 3) dzc1_cX11_wrongOf_64 di_31 (Nat.zero_lt_succ _) rfl
set_option maxRecDepth 100000 in
theorem dzc1_cX11_wrongOf_96 : DzLies cX11_wrongOf (.mk ⟨[0x01, 0xa7, 0xff, 0xc5, 0x03, 0xac]⟩) 96 := dz_lies (m := 6) (Nat.zero_lt_succ _) rfl
theorem dX11_wrongOf_97 : decode cX11_wrongOf 97 = .ok (.goto (-59), 3) := dz1 (k := 1) (m := 3) dzc1_cX11_wrongOf_96 di_408 (Nat.zero_lt_succ _) rfl
theorem dX11_wrongOf_100 : decode cX11_wrongOf 100 = .ok (.iconst 0, 1) := dz1 (k := 4) (m := 1) dzc1_cX11_wrongOf_96 di_8 (Nat.zero_lt_succ _) rfl
theorem dX11_wrongOf_101 : decode cX11_wrongOf 101 = .ok (.ireturn, 1) := dz1 (k := 5) (m := 1) dzc1_cX11_wrongOf_96 di_13 (Nat.zero_lt_succ _) rfl
set_option maxRecDepth 100000 in
theorem dzc1_cX11_kindsBy_0 : DzLies cX11_kindsBy (.mk ⟨[0x2a, 0xb4, 0x00, 0x1a, 0x1b, 0x2e, 0x3e, 0x03, 0x36, 0x04, 0x03, 0x36, 0x05, 0x15, 0x05, 0x10, 0x06, 0xa2, 0x00, 0x9a, 0x2a, 0xb4, 0x00, 0x1a, 0x1b, 0x15, 0x05, 0x4f, 0x2a, 0x03, 0x11, 0x05, 0x20]⟩) 0 := dz_lies (m := 33) (Nat.zero_lt_succ _) rfl
theorem dX11_kindsBy_0 : decode cX11_kindsBy 0 = .ok (.aload_n 0, 1) := dz1 (k := 0) (m := 1) dzc1_cX11_kindsBy_0 di_0 (Nat.zero_lt_succ _) rfl
theorem dX11_kindsBy_1 : decode cX11_kindsBy 1 = .ok (.getfield 26, 3) := dz1 (k := 1) (m := 3) dzc1_cX11_kindsBy_0 di_573 (Nat.zero_lt_succ _) rfl
theorem dX11_kindsBy_4 : decode cX11_kindsBy 4 = .ok (.iload_n 1, 1) := dz1 (k := 4) (m := 1) dzc1_cX11_kindsBy_0 di_11 (Nat.zero_lt_succ _) rfl
theorem dX11_kindsBy_5 : decode cX11_kindsBy 5 = .ok (.iaload, 1) := dz1 (k := 5) (m := 1) dzc1_cX11_kindsBy_0 di_30 (Nat.zero_lt_succ _) rfl
theorem dX11_kindsBy_6 : decode cX11_kindsBy 6 = .ok (.istore_n 3, 1) := dz1 (k := 6) (m := 1) dzc1_cX11_kindsBy_0 di_50 (Nat.zero_lt_succ _) rfl
theorem dX11_kindsBy_7 : decode cX11_kindsBy 7 = .ok (.iconst 0, 1) := dz1 (k := 7) (m := 1) dzc1_cX11_kindsBy_0 di_8 (Nat.zero_lt_succ _) rfl
theorem dX11_kindsBy_8 : decode cX11_kindsBy 8 = .ok (.istore 4, 2) := dz1 (k := 8) (m := 2) dzc1_cX11_kindsBy_0 di_51 (Nat.zero_lt_succ _) rfl
theorem dX11_kindsBy_10 : decode cX11_kindsBy 10 = .ok (.iconst 0, 1) := dz1 (k := 10) (m := 1) dzc1_cX11_kindsBy_0 di_8 (Nat.zero_lt_succ _) rfl
theorem dX11_kindsBy_11 : decode cX11_kindsBy 11 = .ok (.istore 5, 2) := dz1 (k := 11) (m := 2) dzc1_cX11_kindsBy_0 di_100 (Nat.zero_lt_succ _) rfl
theorem dX11_kindsBy_13 : decode cX11_kindsBy 13 = .ok (.iload 5, 2) := dz1 (k := 13) (m := 2) dzc1_cX11_kindsBy_0 di_101 (Nat.zero_lt_succ _) rfl
theorem dX11_kindsBy_15 : decode cX11_kindsBy 15 = .ok (.bipush 6, 2) := dz1 (k := 15) (m := 2) dzc1_cX11_kindsBy_0 di_86 (Nat.zero_lt_succ _) rfl
theorem dX11_kindsBy_17 : decode cX11_kindsBy 17 = .ok (.if_icmp .ge 154, 3) := dz1 (k := 17) (m := 3) dzc1_cX11_kindsBy_0 di_553 (Nat.zero_lt_succ _) rfl
theorem dX11_kindsBy_20 : decode cX11_kindsBy 20 = .ok (.aload_n 0, 1) := dz1 (k := 20) (m := 1) dzc1_cX11_kindsBy_0 di_0 (Nat.zero_lt_succ _) rfl
theorem dX11_kindsBy_21 : decode cX11_kindsBy 21 = .ok (.getfield 26, 3) := dz1 (k := 21) (m := 3) dzc1_cX11_kindsBy_0 di_573 (Nat.zero_lt_succ _) rfl
theorem dX11_kindsBy_24 : decode cX11_kindsBy 24 = .ok (.iload_n 1, 1) := dz1 (k := 24) (m := 1) dzc1_cX11_kindsBy_0 di_11 (Nat.zero_lt_succ _) rfl
theorem dX11_kindsBy_25 : decode cX11_kindsBy 25 = .ok (.iload 5, 2) := dz1 (k := 25) (m := 2) dzc1_cX11_kindsBy_0 di_101 (Nat.zero_lt_succ _) rfl
theorem dX11_kindsBy_27 : decode cX11_kindsBy 27 = .ok (.iastore, 1) := dz1 (k := 27) (m := 1) dzc1_cX11_kindsBy_0 di_22 (Nat.zero_lt_succ _) rfl
theorem dX11_kindsBy_28 : decode cX11_kindsBy 28 = .ok (.aload_n 0, 1) := dz1 (k := 28) (m := 1) dzc1_cX11_kindsBy_0 di_0 (Nat.zero_lt_succ _) rfl
theorem dX11_kindsBy_29 : decode cX11_kindsBy 29 = .ok (.iconst 0, 1) := dz1 (k := 29) (m := 1) dzc1_cX11_kindsBy_0 di_8 (Nat.zero_lt_succ _) rfl
theorem dX11_kindsBy_30 : decode cX11_kindsBy 30 = .ok (.sipush 1312, 3) := dz1 (k := 30) (m := 3) dzc1_cX11_kindsBy_0 di_616 (Nat.zero_lt_succ _) rfl
set_option maxRecDepth 100000 in
theorem dzc1_cX11_kindsBy_32 : DzLies cX11_kindsBy (.mk ⟨[0x20, 0x10, 0x08, 0xb6, 0x00, 0xa0, 0x04, 0x36, 0x06, 0x03, 0x36, 0x07, 0x15, 0x07, 0x2a, 0xb4, 0x00, 0x07, 0x1c, 0x2e, 0xa2, 0x00, 0x5f, 0x15, 0x06, 0x99, 0x00, 0x5a, 0x2a, 0xb4, 0x00, 0x0d]⟩) 32 := dz_lies (m := 32) (Nat.zero_lt_succ _) rfl
theorem dX11_kindsBy_33 : decode cX11_kindsBy 33 = .ok (.bipush 8, 2) := dz1 (k := 1) (m := 2) dzc1_cX11_kindsBy_32 di_184 (Nat.zero_lt_succ _) rfl
theorem dX11_kindsBy_35 : decode cX11_kindsBy 35 = .ok (.invokevirtual 160, 3) := dz1 (k := 3) (m := 3) dzc1_cX11_kindsBy_32 di_610 (Nat.zero_lt_succ _) rfl
theorem dX11_kindsBy_38 : decode cX11_kindsBy 38 = .ok (.iconst 1, 1) := dz1 (k := 6) (m := 1) dzc1_cX11_kindsBy_32 di_10 (Nat.zero_lt_succ _) rfl
theorem dX11_kindsBy_39 : decode cX11_kindsBy 39 = .ok (.istore 6, 2) := dz1 (k := 7) (m := 2) dzc1_cX11_kindsBy_32 di_114 (Nat.zero_lt_succ _) rfl
theorem dX11_kindsBy_41 : decode cX11_kindsBy 41 = .ok (.iconst 0, 1) := dz1 (k := 9) (m := 1) dzc1_cX11_kindsBy_32 di_8 (Nat.zero_lt_succ _) rfl
theorem dX11_kindsBy_42 : decode cX11_kindsBy 42 = .ok (.istore 7, 2) := dz1 (k := 10) (m := 2) dzc1_cX11_kindsBy_32 di_116 (Nat.zero_lt_succ _) rfl
theorem dX11_kindsBy_44 : decode cX11_kindsBy 44 = .ok (.iload 7, 2) := dz1 (k := 12) (m := 2) dzc1_cX11_kindsBy_32 di_117 (Nat.zero_lt_succ _) rfl
theorem dX11_kindsBy_46 : decode cX11_kindsBy 46 = .ok (.aload_n 0, 1) := dz1 (k := 14) (m := 1) dzc1_cX11_kindsBy_32 di_0 (Nat.zero_lt_succ _) rfl
theorem dX11_kindsBy_47 : decode cX11_kindsBy 47 = .ok (.getfield 7, 3) := dz1 (k := 15) (m := 3) dzc1_cX11_kindsBy_32 di_514 (Nat.zero_lt_succ _) rfl
theorem dX11_kindsBy_50 : decode cX11_kindsBy 50 = .ok (.iload_n 2, 1) := dz1 (k := 18) (m := 1) dzc1_cX11_kindsBy_32 di_28 (Nat.zero_lt_succ _) rfl
theorem dX11_kindsBy_51 : decode cX11_kindsBy 51 = .ok (.iaload, 1) := dz1 (k := 19) (m := 1) dzc1_cX11_kindsBy_32 di_30 (Nat.zero_lt_succ _) rfl
theorem dX11_kindsBy_52 : decode cX11_kindsBy 52 = .ok (.if_icmp .ge 95, 3) := dz1 (k := 20) (m := 3) dzc1_cX11_kindsBy_32 di_53 (Nat.zero_lt_succ _) rfl
theorem dX11_kindsBy_55 : decode cX11_kindsBy 55 = .ok (.iload 6, 2) := dz1 (k := 23) (m := 2) dzc1_cX11_kindsBy_32 di_115 (Nat.zero_lt_succ _) rfl
theorem dX11_kindsBy_57 : decode cX11_kindsBy 57 = .ok (.ifCond .eq 90, 3) := dz1 (k := 25) (m := 3) dzc1_cX11_kindsBy_32 di_647 (Nat.zero_lt_succ _) rfl
theorem dX11_kindsBy_60 : decode cX11_kindsBy 60 = .ok (.aload_n 0, 1) := dz1 (k := 28) (m := 1) dzc1_cX11_kindsBy_32 di_0 (Nat.zero_lt_succ _) rfl
theorem dX11_kindsBy_61 : decode cX11_kindsBy 61 = .ok (.getfield 13, 3) := dz1 (k := 29) (m := 3) dzc1_cX11_kindsBy_32 di_524 (Nat.zero_lt_succ _) rfl
set_option maxRecDepth 100000 in
theorem dzc1_cX11_kindsBy_64 : DzLies cX11_kindsBy (.mk ⟨[0x10, 0x28, 0x1c, 0x68, 0x15, 0x07, 0x60, 0x2e, 0x36, 0x08, 0x2a, 0xb4, 0x00, 0x26, 0x11, 0x05, 0x25, 0x2e, 0x15, 0x08, 0xb8, 0x00, 0x8b, 0x36, 0x06, 0x15, 0x06, 0x99, 0x00, 0x32, 0x2a, 0x11, 0x05, 0x20]⟩) 64 := dz_lies (m := 34) (Nat.zero_lt_succ _) rfl
theorem dX11_kindsBy_64 : decode cX11_kindsBy 64 = .ok (.bipush 40, 2) := dz1 (k := 0) (m := 2) dzc1_cX11_kindsBy_64 di_16 (Nat.zero_lt_succ _) rfl
theorem dX11_kindsBy_66 : decode cX11_kindsBy 66 = .ok (.iload_n 2, 1) := dz1 (k := 2) (m := 1) dzc1_cX11_kindsBy_64 di_28 (Nat.zero_lt_succ _) rfl
theorem dX11_kindsBy_67 : decode cX11_kindsBy 67 = .ok (.imul, 1) := dz1 (k := 3) (m := 1) dzc1_cX11_kindsBy_64 di_113 (Nat.zero_lt_succ _) rfl
theorem dX11_kindsBy_68 : decode cX11_kindsBy 68 = .ok (.iload 7, 2) := dz1 (k := 4) (m := 2) dzc1_cX11_kindsBy_64 di_117 (Nat.zero_lt_succ _) rfl
theorem dX11_kindsBy_70 : decode cX11_kindsBy 70 = .ok (.iadd, 1) := dz1 (k := 6) (m := 1) dzc1_cX11_kindsBy_64 di_24 (Nat.zero_lt_succ _) rfl
theorem dX11_kindsBy_71 : decode cX11_kindsBy 71 = .ok (.iaload, 1) := dz1 (k := 7) (m := 1) dzc1_cX11_kindsBy_64 di_30 (Nat.zero_lt_succ _) rfl
theorem dX11_kindsBy_72 : decode cX11_kindsBy 72 = .ok (.istore 8, 2) := dz1 (k := 8) (m := 2) dzc1_cX11_kindsBy_64 di_363 (Nat.zero_lt_succ _) rfl
theorem dX11_kindsBy_74 : decode cX11_kindsBy 74 = .ok (.aload_n 0, 1) := dz1 (k := 10) (m := 1) dzc1_cX11_kindsBy_64 di_0 (Nat.zero_lt_succ _) rfl
theorem dX11_kindsBy_75 : decode cX11_kindsBy 75 = .ok (.getfield 38, 3) := dz1 (k := 11) (m := 3) dzc1_cX11_kindsBy_64 di_574 (Nat.zero_lt_succ _) rfl
theorem dX11_kindsBy_78 : decode cX11_kindsBy 78 = .ok (.sipush 1317, 3) := dz1 (k := 14) (m := 3) dzc1_cX11_kindsBy_64 di_618 (Nat.zero_lt_succ _) rfl
theorem dX11_kindsBy_81 : decode cX11_kindsBy 81 = .ok (.iaload, 1) := dz1 (k := 17) (m := 1) dzc1_cX11_kindsBy_64 di_30 (Nat.zero_lt_succ _) rfl
theorem dX11_kindsBy_82 : decode cX11_kindsBy 82 = .ok (.iload 8, 2) := dz1 (k := 18) (m := 2) dzc1_cX11_kindsBy_64 di_364 (Nat.zero_lt_succ _) rfl
theorem dX11_kindsBy_84 : decode cX11_kindsBy 84 = .ok (.invokestatic 139, 3) := dz1 (k := 20) (m := 3) dzc1_cX11_kindsBy_64 di_587 (Nat.zero_lt_succ _) rfl
theorem dX11_kindsBy_87 : decode cX11_kindsBy 87 = .ok (.istore 6, 2) := dz1 (k := 23) (m := 2) dzc1_cX11_kindsBy_64 di_114 (Nat.zero_lt_succ _) rfl
theorem dX11_kindsBy_89 : decode cX11_kindsBy 89 = .ok (.iload 6, 2) := dz1 (k := 25) (m := 2) dzc1_cX11_kindsBy_64 di_115 (Nat.zero_lt_succ _) rfl
theorem dX11_kindsBy_91 : decode cX11_kindsBy 91 = .ok (.ifCond .eq 50, 3) := dz1 (k := 27) (m := 3) dzc1_cX11_kindsBy_64 di_639 (Nat.zero_lt_succ _) rfl
theorem dX11_kindsBy_94 : decode cX11_kindsBy 94 = .ok (.aload_n 0, 1) := dz1 (k := 30) (m := 1) dzc1_cX11_kindsBy_64 di_0 (Nat.zero_lt_succ _) rfl
theorem dX11_kindsBy_95 : decode cX11_kindsBy 95 = .ok (.sipush 1312, 3) := dz1 (k := 31) (m := 3) dzc1_cX11_kindsBy_64 di_616 (Nat.zero_lt_succ _) rfl
set_option maxRecDepth 100000 in
theorem dzc1_cX11_kindsBy_96 : DzLies cX11_kindsBy (.mk ⟨[0x05, 0x20, 0x15, 0x08, 0xb6, 0x00, 0xa7, 0x57, 0x2a, 0xb4, 0x00, 0x26, 0x11, 0x05, 0x20, 0x1b, 0x60, 0x2e, 0xb8, 0x00, 0x85, 0x2a, 0xb4, 0x00, 0x0d, 0x10, 0x28, 0x1c, 0x68, 0x15, 0x07, 0x60]⟩) 96 := dz_lies (m := 32) (Nat.zero_lt_succ _) rfl
theorem dX11_kindsBy_98 : decode cX11_kindsBy 98 = .ok (.iload 8, 2) := dz1 (k := 2) (m := 2) dzc1_cX11_kindsBy_96 di_364 (Nat.zero_lt_succ _) rfl
theorem dX11_kindsBy_100 : decode cX11_kindsBy 100 = .ok (.invokevirtual 167, 3) := dz1 (k := 4) (m := 3) dzc1_cX11_kindsBy_96 di_295 (Nat.zero_lt_succ _) rfl
theorem dX11_kindsBy_103 : decode cX11_kindsBy 103 = .ok (.pop, 1) := dz1 (k := 7) (m := 1) dzc1_cX11_kindsBy_96 di_331 (Nat.zero_lt_succ _) rfl
theorem dX11_kindsBy_104 : decode cX11_kindsBy 104 = .ok (.aload_n 0, 1) := dz1 (k := 8) (m := 1) dzc1_cX11_kindsBy_96 di_0 (Nat.zero_lt_succ _) rfl
theorem dX11_kindsBy_105 : decode cX11_kindsBy 105 = .ok (.getfield 38, 3) := dz1 (k := 9) (m := 3) dzc1_cX11_kindsBy_96 di_574 (Nat.zero_lt_succ _) rfl
theorem dX11_kindsBy_108 : decode cX11_kindsBy 108 = .ok (.sipush 1312, 3) := dz1 (k := 12) (m := 3) dzc1_cX11_kindsBy_96 di_616 (Nat.zero_lt_succ _) rfl
theorem dX11_kindsBy_111 : decode cX11_kindsBy 111 = .ok (.iload_n 1, 1) := dz1 (k := 15) (m := 1) dzc1_cX11_kindsBy_96 di_11 (Nat.zero_lt_succ _) rfl
theorem dX11_kindsBy_112 : decode cX11_kindsBy 112 = .ok (.iadd, 1) := dz1 (k := 16) (m := 1) dzc1_cX11_kindsBy_96 di_24 (Nat.zero_lt_succ _) rfl
theorem dX11_kindsBy_113 : decode cX11_kindsBy 113 = .ok (.iaload, 1) := dz1 (k := 17) (m := 1) dzc1_cX11_kindsBy_96 di_30 (Nat.zero_lt_succ _) rfl
theorem dX11_kindsBy_114 : decode cX11_kindsBy 114 = .ok (.invokestatic 133, 3) := dz1 (k := 18) (m := 3) dzc1_cX11_kindsBy_96 di_582 (Nat.zero_lt_succ _) rfl
theorem dX11_kindsBy_117 : decode cX11_kindsBy 117 = .ok (.aload_n 0, 1) := dz1 (k := 21) (m := 1) dzc1_cX11_kindsBy_96 di_0 (Nat.zero_lt_succ _) rfl
theorem dX11_kindsBy_118 : decode cX11_kindsBy 118 = .ok (.getfield 13, 3) := dz1 (k := 22) (m := 3) dzc1_cX11_kindsBy_96 di_524 (Nat.zero_lt_succ _) rfl
theorem dX11_kindsBy_121 : decode cX11_kindsBy 121 = .ok (.bipush 40, 2) := dz1 (k := 25) (m := 2) dzc1_cX11_kindsBy_96 di_16 (Nat.zero_lt_succ _) rfl
theorem dX11_kindsBy_123 : decode cX11_kindsBy 123 = .ok (.iload_n 2, 1) := dz1 (k := 27) (m := 1) dzc1_cX11_kindsBy_96 di_28 (Nat.zero_lt_succ _) rfl
theorem dX11_kindsBy_124 : decode cX11_kindsBy 124 = .ok (.imul, 1) := dz1 (k := 28) (m := 1) dzc1_cX11_kindsBy_96 di_113 (Nat.zero_lt_succ _) rfl
theorem dX11_kindsBy_125 : decode cX11_kindsBy 125 = .ok (.iload 7, 2) := dz1 (k := 29) (m := 2) dzc1_cX11_kindsBy_96 di_117 (Nat.zero_lt_succ _) rfl
theorem dX11_kindsBy_127 : decode cX11_kindsBy 127 = .ok (.iadd, 1) := dz1 (k := 31) (m := 1) dzc1_cX11_kindsBy_96 di_24 (Nat.zero_lt_succ _) rfl
set_option maxRecDepth 100000 in
theorem dzc1_cX11_kindsBy_128 : DzLies cX11_kindsBy (.mk ⟨[0x04, 0x60, 0x2e, 0xa0, 0x00, 0x07, 0x04, 0xa7, 0x00, 0x04, 0x03, 0x36, 0x06, 0x84, 0x07, 0x02, 0xa7, 0xff, 0x9c, 0x15, 0x04, 0x15, 0x06, 0x99, 0x00, 0x0a, 0x04, 0x15, 0x05, 0x78, 0xa7, 0x00, 0x04]⟩) 128 := dz_lies (m := 33) (Nat.zero_lt_succ _) rfl
theorem dX11_kindsBy_128 : decode cX11_kindsBy 128 = .ok (.iconst 1, 1) := dz1 (k := 0) (m := 1) dzc1_cX11_kindsBy_128 di_10 (Nat.zero_lt_succ _) rfl
theorem dX11_kindsBy_129 : decode cX11_kindsBy 129 = .ok (.iadd, 1) := dz1 (k := 1) (m := 1) dzc1_cX11_kindsBy_128 di_24 (Nat.zero_lt_succ _) rfl
theorem dX11_kindsBy_130 : decode cX11_kindsBy 130 = .ok (.iaload, 1) := dz1 (k := 2) (m := 1) dzc1_cX11_kindsBy_128 di_30 (Nat.zero_lt_succ _) rfl
theorem dX11_kindsBy_131 : decode cX11_kindsBy 131 = .ok (.if_icmp .ne 7, 3) := dz1 (k := 3) (m := 3) dzc1_cX11_kindsBy_128 di_7 (Nat.zero_lt_succ _) rfl
theorem dX11_kindsBy_134 : decode cX11_kindsBy 134 = .ok (.iconst 1, 1) := dz1 (k := 6) (m := 1) dzc1_cX11_kindsBy_128 di_10 (Nat.zero_lt_succ _) rfl
theorem dX11_kindsBy_135 : decode cX11_kindsBy 135 = .ok (.goto 4, 3) := dz1 (k := 7) (m := 3) dzc1_cX11_kindsBy_128 di_49 (Nat.zero_lt_succ _) rfl
theorem dX11_kindsBy_138 : decode cX11_kindsBy 138 = .ok (.iconst 0, 1) := dz1 (k := 10) (m := 1) dzc1_cX11_kindsBy_128 di_8 (Nat.zero_lt_succ _) rfl
theorem dX11_kindsBy_139 : decode cX11_kindsBy 139 = .ok (.istore 6, 2) := dz1 (k := 11) (m := 2) dzc1_cX11_kindsBy_128 di_114 (Nat.zero_lt_succ _) rfl
theorem dX11_kindsBy_141 : decode cX11_kindsBy 141 = .ok (.iinc 7 2, 3) := dz1 (k := 13) (m := 3) dzc1_cX11_kindsBy_128 di_648 (Nat.zero_lt_succ _) rfl
theorem dX11_kindsBy_144 : decode cX11_kindsBy 144 = .ok (.goto (-100), 3) := dz1 (k := 16) (m := 3) dzc1_cX11_kindsBy_128 di_624 (Nat.zero_lt_succ _) rfl
theorem dX11_kindsBy_147 : decode cX11_kindsBy 147 = .ok (.iload 4, 2) := dz1 (k := 19) (m := 2) dzc1_cX11_kindsBy_128 di_52 (Nat.zero_lt_succ _) rfl
theorem dX11_kindsBy_149 : decode cX11_kindsBy 149 = .ok (.iload 6, 2) := dz1 (k := 21) (m := 2) dzc1_cX11_kindsBy_128 di_115 (Nat.zero_lt_succ _) rfl
theorem dX11_kindsBy_151 : decode cX11_kindsBy 151 = .ok (.ifCond .eq 10, 3) := dz1 (k := 23) (m := 3) dzc1_cX11_kindsBy_128 di_460 (Nat.zero_lt_succ _) rfl
theorem dX11_kindsBy_154 : decode cX11_kindsBy 154 = .ok (.iconst 1, 1) := dz1 (k := 26) (m := 1) dzc1_cX11_kindsBy_128 di_10 (Nat.zero_lt_succ _) rfl
theorem dX11_kindsBy_155 : decode cX11_kindsBy 155 = .ok (.iload 5, 2) := dz1 (k := 27) (m := 2) dzc1_cX11_kindsBy_128 di_101 (Nat.zero_lt_succ _) rfl
theorem dX11_kindsBy_157 : decode cX11_kindsBy 157 = .ok (.ishl, 1) := dz1 (k := 29) (m := 1) dzc1_cX11_kindsBy_128 di_12 (Nat.zero_lt_succ _) rfl
theorem dX11_kindsBy_158 : decode cX11_kindsBy 158 = .ok (.goto 4, 3) := dz1 (k := 30) (m := 3) dzc1_cX11_kindsBy_128 di_49 (Nat.zero_lt_succ _) rfl
set_option maxRecDepth 100000 in
theorem dzc1_cX11_kindsBy_160 : DzLies cX11_kindsBy (.mk ⟨[0x04, 0x03, 0x80, 0x36, 0x04, 0x84, 0x05, 0x01, 0xa7, 0xff, 0x65, 0x2a, 0xb4, 0x00, 0x1a, 0x1b, 0x1d, 0x4f, 0x15, 0x04, 0xac]⟩) 160 := dz_lies (m := 21) (Nat.zero_lt_succ _) rfl
theorem dX11_kindsBy_161 : decode cX11_kindsBy 161 = .ok (.iconst 0, 1) := dz1 (k := 1) (m := 1) dzc1_cX11_kindsBy_160 di_8 (Nat.zero_lt_succ _) rfl
theorem dX11_kindsBy_162 : decode cX11_kindsBy 162 = .ok (.ior, 1) := dz1 (k := 2) (m := 1) dzc1_cX11_kindsBy_160 di_62 (Nat.zero_lt_succ _) rfl
theorem dX11_kindsBy_163 : decode cX11_kindsBy 163 = .ok (.istore 4, 2) := dz1 (k := 3) (m := 2) dzc1_cX11_kindsBy_160 di_51 (Nat.zero_lt_succ _) rfl
theorem dX11_kindsBy_165 : decode cX11_kindsBy 165 = .ok (.iinc 5 1, 3) := dz1 (k := 5) (m := 3) dzc1_cX11_kindsBy_160 di_131 (Nat.zero_lt_succ _) rfl
theorem dX11_kindsBy_168 : decode cX11_kindsBy 168 = .ok (.goto (-155), 3) := dz1 (k := 8) (m := 3) dzc1_cX11_kindsBy_160 di_561 (Nat.zero_lt_succ _) rfl
theorem dX11_kindsBy_171 : decode cX11_kindsBy 171 = .ok (.aload_n 0, 1) := dz1 (k := 11) (m := 1) dzc1_cX11_kindsBy_160 di_0 (Nat.zero_lt_succ _) rfl
theorem dX11_kindsBy_172 : decode cX11_kindsBy 172 = .ok (.getfield 26, 3) := dz1 (k := 12) (m := 3) dzc1_cX11_kindsBy_160 di_573 (Nat.zero_lt_succ _) rfl
theorem dX11_kindsBy_175 : decode cX11_kindsBy 175 = .ok (.iload_n 1, 1) := dz1 (k := 15) (m := 1) dzc1_cX11_kindsBy_160 di_11 (Nat.zero_lt_succ _) rfl
theorem dX11_kindsBy_176 : decode cX11_kindsBy 176 = .ok (.iload_n 3, 1) := dz1 (k := 16) (m := 1) dzc1_cX11_kindsBy_160 di_3 (Nat.zero_lt_succ _) rfl
theorem dX11_kindsBy_177 : decode cX11_kindsBy 177 = .ok (.iastore, 1) := dz1 (k := 17) (m := 1) dzc1_cX11_kindsBy_160 di_22 (Nat.zero_lt_succ _) rfl
theorem dX11_kindsBy_178 : decode cX11_kindsBy 178 = .ok (.iload 4, 2) := dz1 (k := 18) (m := 2) dzc1_cX11_kindsBy_160 di_52 (Nat.zero_lt_succ _) rfl
theorem dX11_kindsBy_180 : decode cX11_kindsBy 180 = .ok (.ireturn, 1) := dz1 (k := 20) (m := 1) dzc1_cX11_kindsBy_160 di_13 (Nat.zero_lt_succ _) rfl
set_option maxRecDepth 100000 in
theorem dzc1_cX11_kinds_0 : DzLies cX11_kinds (.mk ⟨[0x2a, 0x1b, 0xb6, 0x00, 0x98, 0x99, 0x00, 0x0b, 0x2a, 0x1c, 0xb6, 0x00, 0x4b, 0x9a, 0x00, 0x05, 0x02, 0xac, 0x2a, 0x1c, 0xb6, 0x00, 0xbd, 0x3e, 0x1d, 0x9e, 0x00, 0x0b, 0x2a, 0x1d, 0xb6, 0x00, 0x4f]⟩) 0 := dz_lies (m := 33) (Nat.zero_lt_succ _) rfl
theorem dX11_kinds_0 : decode cX11_kinds 0 = .ok (.aload_n 0, 1) := dz1 (k := 0) (m := 1) dzc1_cX11_kinds_0 di_0 (Nat.zero_lt_succ _) rfl
theorem dX11_kinds_1 : decode cX11_kinds 1 = .ok (.iload_n 1, 1) := dz1 (k := 1) (m := 1) dzc1_cX11_kinds_0 di_11 (Nat.zero_lt_succ _) rfl
theorem dX11_kinds_2 : decode cX11_kinds 2 = .ok (.invokevirtual 152, 3) := dz1 (k := 2) (m := 3) dzc1_cX11_kinds_0 di_600 (Nat.zero_lt_succ _) rfl
theorem dX11_kinds_5 : decode cX11_kinds 5 = .ok (.ifCond .eq 11, 3) := dz1 (k := 5) (m := 3) dzc1_cX11_kinds_0 di_238 (Nat.zero_lt_succ _) rfl
theorem dX11_kinds_8 : decode cX11_kinds 8 = .ok (.aload_n 0, 1) := dz1 (k := 8) (m := 1) dzc1_cX11_kinds_0 di_0 (Nat.zero_lt_succ _) rfl
theorem dX11_kinds_9 : decode cX11_kinds 9 = .ok (.iload_n 2, 1) := dz1 (k := 9) (m := 1) dzc1_cX11_kinds_0 di_28 (Nat.zero_lt_succ _) rfl
theorem dX11_kinds_10 : decode cX11_kinds 10 = .ok (.invokevirtual 75, 3) := dz1 (k := 10) (m := 3) dzc1_cX11_kinds_0 di_525 (Nat.zero_lt_succ _) rfl
theorem dX11_kinds_13 : decode cX11_kinds 13 = .ok (.ifCond .ne 5, 3) := dz1 (k := 13) (m := 3) dzc1_cX11_kinds_0 di_239 (Nat.zero_lt_succ _) rfl
theorem dX11_kinds_16 : decode cX11_kinds 16 = .ok (.iconst (-1), 1) := dz1 (k := 16) (m := 1) dzc1_cX11_kinds_0 di_65 (Nat.zero_lt_succ _) rfl
theorem dX11_kinds_17 : decode cX11_kinds 17 = .ok (.ireturn, 1) := dz1 (k := 17) (m := 1) dzc1_cX11_kinds_0 di_13 (Nat.zero_lt_succ _) rfl
theorem dX11_kinds_18 : decode cX11_kinds 18 = .ok (.aload_n 0, 1) := dz1 (k := 18) (m := 1) dzc1_cX11_kinds_0 di_0 (Nat.zero_lt_succ _) rfl
theorem dX11_kinds_19 : decode cX11_kinds 19 = .ok (.iload_n 2, 1) := dz1 (k := 19) (m := 1) dzc1_cX11_kinds_0 di_28 (Nat.zero_lt_succ _) rfl
theorem dX11_kinds_20 : decode cX11_kinds 20 = .ok (.invokevirtual 189, 3) := dz1 (k := 20) (m := 3) dzc1_cX11_kinds_0 di_649 (Nat.zero_lt_succ _) rfl
theorem dX11_kinds_23 : decode cX11_kinds 23 = .ok (.istore_n 3, 1) := dz1 (k := 23) (m := 1) dzc1_cX11_kinds_0 di_50 (Nat.zero_lt_succ _) rfl
theorem dX11_kinds_24 : decode cX11_kinds 24 = .ok (.iload_n 3, 1) := dz1 (k := 24) (m := 1) dzc1_cX11_kinds_0 di_3 (Nat.zero_lt_succ _) rfl
theorem dX11_kinds_25 : decode cX11_kinds 25 = .ok (.ifCond .le 11, 3) := dz1 (k := 25) (m := 3) dzc1_cX11_kinds_0 di_650 (Nat.zero_lt_succ _) rfl
theorem dX11_kinds_28 : decode cX11_kinds 28 = .ok (.aload_n 0, 1) := dz1 (k := 28) (m := 1) dzc1_cX11_kinds_0 di_0 (Nat.zero_lt_succ _) rfl
theorem dX11_kinds_29 : decode cX11_kinds 29 = .ok (.iload_n 3, 1) := dz1 (k := 29) (m := 1) dzc1_cX11_kinds_0 di_3 (Nat.zero_lt_succ _) rfl
theorem dX11_kinds_30 : decode cX11_kinds 30 = .ok (.invokevirtual 79, 3) := dz1 (k := 30) (m := 3) dzc1_cX11_kinds_0 di_526 (Nat.zero_lt_succ _) rfl
set_option maxRecDepth 100000 in
theorem dzc1_cX11_kinds_32 : DzLies cX11_kinds (.mk ⟨[0x4f, 0xa7, 0x00, 0x09, 0x2a, 0x1b, 0x1c, 0xb6, 0x00, 0xc0, 0xac]⟩) 32 := dz_lies (m := 11) (Nat.zero_lt_succ _) rfl
theorem dX11_kinds_33 : decode cX11_kinds 33 = .ok (.goto 9, 3) := dz1 (k := 1) (m := 3) dzc1_cX11_kinds_32 di_651 (Nat.zero_lt_succ _) rfl
theorem dX11_kinds_36 : decode cX11_kinds 36 = .ok (.aload_n 0, 1) := dz1 (k := 4) (m := 1) dzc1_cX11_kinds_32 di_0 (Nat.zero_lt_succ _) rfl
theorem dX11_kinds_37 : decode cX11_kinds 37 = .ok (.iload_n 1, 1) := dz1 (k := 5) (m := 1) dzc1_cX11_kinds_32 di_11 (Nat.zero_lt_succ _) rfl
theorem dX11_kinds_38 : decode cX11_kinds 38 = .ok (.iload_n 2, 1) := dz1 (k := 6) (m := 1) dzc1_cX11_kinds_32 di_28 (Nat.zero_lt_succ _) rfl
theorem dX11_kinds_39 : decode cX11_kinds 39 = .ok (.invokevirtual 192, 3) := dz1 (k := 7) (m := 3) dzc1_cX11_kinds_32 di_652 (Nat.zero_lt_succ _) rfl
theorem dX11_kinds_42 : decode cX11_kinds 42 = .ok (.ireturn, 1) := dz1 (k := 10) (m := 1) dzc1_cX11_kinds_32 di_13 (Nat.zero_lt_succ _) rfl
set_option maxRecDepth 100000 in
theorem dzc1_cX11_part_0 : DzLies cX11_part (.mk ⟨[0x03, 0x36, 0x04, 0x03, 0x36, 0x05, 0x15, 0x05, 0x10, 0x07, 0xa2, 0x00, 0x64, 0x03, 0x36, 0x06, 0x03, 0x36, 0x07, 0x15, 0x07, 0x10, 0x06, 0xa2, 0x00, 0x48, 0x2a, 0xb4, 0x00, 0x26, 0x1b, 0x2e]⟩) 0 := dz_lies (m := 32) (Nat.zero_lt_succ _) rfl
theorem dX11_part_0 : decode cX11_part 0 = .ok (.iconst 0, 1) := dz1 (k := 0) (m := 1) dzc1_cX11_part_0 di_8 (Nat.zero_lt_succ _) rfl
theorem dX11_part_1 : decode cX11_part 1 = .ok (.istore 4, 2) := dz1 (k := 1) (m := 2) dzc1_cX11_part_0 di_51 (Nat.zero_lt_succ _) rfl
theorem dX11_part_3 : decode cX11_part 3 = .ok (.iconst 0, 1) := dz1 (k := 3) (m := 1) dzc1_cX11_part_0 di_8 (Nat.zero_lt_succ _) rfl
theorem dX11_part_4 : decode cX11_part 4 = .ok (.istore 5, 2) := dz1 (k := 4) (m := 2) dzc1_cX11_part_0 di_100 (Nat.zero_lt_succ _) rfl
theorem dX11_part_6 : decode cX11_part 6 = .ok (.iload 5, 2) := dz1 (k := 6) (m := 2) dzc1_cX11_part_0 di_101 (Nat.zero_lt_succ _) rfl
theorem dX11_part_8 : decode cX11_part 8 = .ok (.bipush 7, 2) := dz1 (k := 8) (m := 2) dzc1_cX11_part_0 di_83 (Nat.zero_lt_succ _) rfl
theorem dX11_part_10 : decode cX11_part 10 = .ok (.if_icmp .ge 100, 3) := dz1 (k := 10) (m := 3) dzc1_cX11_part_0 di_653 (Nat.zero_lt_succ _) rfl
theorem dX11_part_13 : decode cX11_part 13 = .ok (.iconst 0, 1) := dz1 (k := 13) (m := 1) dzc1_cX11_part_0 di_8 (Nat.zero_lt_succ _) rfl
theorem dX11_part_14 : decode cX11_part 14 = .ok (.istore 6, 2) := dz1 (k := 14) (m := 2) dzc1_cX11_part_0 di_114 (Nat.zero_lt_succ _) rfl
theorem dX11_part_16 : decode cX11_part 16 = .ok (.iconst 0, 1) := dz1 (k := 16) (m := 1) dzc1_cX11_part_0 di_8 (Nat.zero_lt_succ _) rfl
theorem dX11_part_17 : decode cX11_part 17 = .ok (.istore 7, 2) := dz1 (k := 17) (m := 2) dzc1_cX11_part_0 di_116 (Nat.zero_lt_succ _) rfl
theorem dX11_part_19 : decode cX11_part 19 = .ok (.iload 7, 2) := dz1 (k := 19) (m := 2) dzc1_cX11_part_0 di_117 (Nat.zero_lt_succ _) rfl
theorem dX11_part_21 : decode cX11_part 21 = .ok (.bipush 6, 2) := dz1 (k := 21) (m := 2) dzc1_cX11_part_0 di_86 (Nat.zero_lt_succ _) rfl
theorem dX11_part_23 : decode cX11_part 23 = .ok (.if_icmp .ge 72, 3) := dz1 (k := 23) (m := 3) dzc1_cX11_part_0 di_654 (Nat.zero_lt_succ _) rfl
theorem dX11_part_26 : decode cX11_part 26 = .ok (.aload_n 0, 1) := dz1 (k := 26) (m := 1) dzc1_cX11_part_0 di_0 (Nat.zero_lt_succ _) rfl
theorem dX11_part_27 : decode cX11_part 27 = .ok (.getfield 38, 3) := dz1 (k := 27) (m := 3) dzc1_cX11_part_0 di_574 (Nat.zero_lt_succ _) rfl
theorem dX11_part_30 : decode cX11_part 30 = .ok (.iload_n 1, 1) := dz1 (k := 30) (m := 1) dzc1_cX11_part_0 di_11 (Nat.zero_lt_succ _) rfl
theorem dX11_part_31 : decode cX11_part 31 = .ok (.iaload, 1) := dz1 (k := 31) (m := 1) dzc1_cX11_part_0 di_30 (Nat.zero_lt_succ _) rfl
set_option maxRecDepth 100000 in
theorem dzc1_cX11_part_32 : DzLies cX11_part (.mk ⟨[0x2a, 0x1b, 0x15, 0x07, 0x1d, 0x2a, 0xb4, 0x00, 0x26, 0x10, 0x07, 0x2e, 0x2a, 0xb4, 0x00, 0x26, 0x10, 0x06, 0x2e, 0xb8, 0x00, 0x8e, 0xb6, 0x00, 0x92, 0x80, 0x36, 0x08, 0x15, 0x06, 0x1c, 0x15, 0x07]⟩) 32 := dz_lies (m := 33) (Nat.zero_lt_succ _) rfl
theorem dX11_part_32 : decode cX11_part 32 = .ok (.aload_n 0, 1) := dz1 (k := 0) (m := 1) dzc1_cX11_part_32 di_0 (Nat.zero_lt_succ _) rfl
theorem dX11_part_33 : decode cX11_part 33 = .ok (.iload_n 1, 1) := dz1 (k := 1) (m := 1) dzc1_cX11_part_32 di_11 (Nat.zero_lt_succ _) rfl
theorem dX11_part_34 : decode cX11_part 34 = .ok (.iload 7, 2) := dz1 (k := 2) (m := 2) dzc1_cX11_part_32 di_117 (Nat.zero_lt_succ _) rfl
theorem dX11_part_36 : decode cX11_part 36 = .ok (.iload_n 3, 1) := dz1 (k := 4) (m := 1) dzc1_cX11_part_32 di_3 (Nat.zero_lt_succ _) rfl
theorem dX11_part_37 : decode cX11_part 37 = .ok (.aload_n 0, 1) := dz1 (k := 5) (m := 1) dzc1_cX11_part_32 di_0 (Nat.zero_lt_succ _) rfl
theorem dX11_part_38 : decode cX11_part 38 = .ok (.getfield 38, 3) := dz1 (k := 6) (m := 3) dzc1_cX11_part_32 di_574 (Nat.zero_lt_succ _) rfl
theorem dX11_part_41 : decode cX11_part 41 = .ok (.bipush 7, 2) := dz1 (k := 9) (m := 2) dzc1_cX11_part_32 di_83 (Nat.zero_lt_succ _) rfl
theorem dX11_part_43 : decode cX11_part 43 = .ok (.iaload, 1) := dz1 (k := 11) (m := 1) dzc1_cX11_part_32 di_30 (Nat.zero_lt_succ _) rfl
theorem dX11_part_44 : decode cX11_part 44 = .ok (.aload_n 0, 1) := dz1 (k := 12) (m := 1) dzc1_cX11_part_32 di_0 (Nat.zero_lt_succ _) rfl
theorem dX11_part_45 : decode cX11_part 45 = .ok (.getfield 38, 3) := dz1 (k := 13) (m := 3) dzc1_cX11_part_32 di_574 (Nat.zero_lt_succ _) rfl
theorem dX11_part_48 : decode cX11_part 48 = .ok (.bipush 6, 2) := dz1 (k := 16) (m := 2) dzc1_cX11_part_32 di_86 (Nat.zero_lt_succ _) rfl
theorem dX11_part_50 : decode cX11_part 50 = .ok (.iaload, 1) := dz1 (k := 18) (m := 1) dzc1_cX11_part_32 di_30 (Nat.zero_lt_succ _) rfl
theorem dX11_part_51 : decode cX11_part 51 = .ok (.invokestatic 142, 3) := dz1 (k := 19) (m := 3) dzc1_cX11_part_32 di_590 (Nat.zero_lt_succ _) rfl
theorem dX11_part_54 : decode cX11_part 54 = .ok (.invokevirtual 146, 3) := dz1 (k := 22) (m := 3) dzc1_cX11_part_32 di_591 (Nat.zero_lt_succ _) rfl
theorem dX11_part_57 : decode cX11_part 57 = .ok (.ior, 1) := dz1 (k := 25) (m := 1) dzc1_cX11_part_32 di_62 (Nat.zero_lt_succ _) rfl
theorem dX11_part_58 : decode cX11_part 58 = .ok (.istore 8, 2) := dz1 (k := 26) (m := 2) dzc1_cX11_part_32 di_363 (Nat.zero_lt_succ _) rfl
theorem dX11_part_60 : decode cX11_part 60 = .ok (.iload 6, 2) := dz1 (k := 28) (m := 2) dzc1_cX11_part_32 di_115 (Nat.zero_lt_succ _) rfl
theorem dX11_part_62 : decode cX11_part 62 = .ok (.iload_n 2, 1) := dz1 (k := 30) (m := 1) dzc1_cX11_part_32 di_28 (Nat.zero_lt_succ _) rfl
theorem dX11_part_63 : decode cX11_part 63 = .ok (.iload 7, 2) := dz1 (k := 31) (m := 2) dzc1_cX11_part_32 di_117 (Nat.zero_lt_succ _) rfl
set_option maxRecDepth 100000 in
theorem dzc1_cX11_part_64 : DzLies cX11_part (.mk ⟨[0x07, 0xb8, 0x00, 0x8b, 0x99, 0x00, 0x11, 0x15, 0x08, 0xb8, 0x00, 0x85, 0x15, 0x05, 0xa0, 0x00, 0x07, 0x04, 0xa7, 0x00, 0x04, 0x03, 0x60, 0x36, 0x06, 0x84, 0x07, 0x01, 0xa7, 0xff, 0xb7, 0x15, 0x04]⟩) 64 := dz_lies (m := 33) (Nat.zero_lt_succ _) rfl
theorem dX11_part_65 : decode cX11_part 65 = .ok (.invokestatic 139, 3) := dz1 (k := 1) (m := 3) dzc1_cX11_part_64 di_587 (Nat.zero_lt_succ _) rfl
theorem dX11_part_68 : decode cX11_part 68 = .ok (.ifCond .eq 17, 3) := dz1 (k := 4) (m := 3) dzc1_cX11_part_64 di_368 (Nat.zero_lt_succ _) rfl
theorem dX11_part_71 : decode cX11_part 71 = .ok (.iload 8, 2) := dz1 (k := 7) (m := 2) dzc1_cX11_part_64 di_364 (Nat.zero_lt_succ _) rfl
theorem dX11_part_73 : decode cX11_part 73 = .ok (.invokestatic 133, 3) := dz1 (k := 9) (m := 3) dzc1_cX11_part_64 di_582 (Nat.zero_lt_succ _) rfl
theorem dX11_part_76 : decode cX11_part 76 = .ok (.iload 5, 2) := dz1 (k := 12) (m := 2) dzc1_cX11_part_64 di_101 (Nat.zero_lt_succ _) rfl
theorem dX11_part_78 : decode cX11_part 78 = .ok (.if_icmp .ne 7, 3) := dz1 (k := 14) (m := 3) dzc1_cX11_part_64 di_7 (Nat.zero_lt_succ _) rfl
theorem dX11_part_81 : decode cX11_part 81 = .ok (.iconst 1, 1) := dz1 (k := 17) (m := 1) dzc1_cX11_part_64 di_10 (Nat.zero_lt_succ _) rfl
theorem dX11_part_82 : decode cX11_part 82 = .ok (.goto 4, 3) := dz1 (k := 18) (m := 3) dzc1_cX11_part_64 di_49 (Nat.zero_lt_succ _) rfl
theorem dX11_part_85 : decode cX11_part 85 = .ok (.iconst 0, 1) := dz1 (k := 21) (m := 1) dzc1_cX11_part_64 di_8 (Nat.zero_lt_succ _) rfl
theorem dX11_part_86 : decode cX11_part 86 = .ok (.iadd, 1) := dz1 (k := 22) (m := 1) dzc1_cX11_part_64 di_24 (Nat.zero_lt_succ _) rfl
theorem dX11_part_87 : decode cX11_part 87 = .ok (.istore 6, 2) := dz1 (k := 23) (m := 2) dzc1_cX11_part_64 di_114 (Nat.zero_lt_succ _) rfl
theorem dX11_part_89 : decode cX11_part 89 = .ok (.iinc 7 1, 3) := dz1 (k := 25) (m := 3) dzc1_cX11_part_64 di_123 (Nat.zero_lt_succ _) rfl
theorem dX11_part_92 : decode cX11_part 92 = .ok (.goto (-73), 3) := dz1 (k := 28) (m := 3) dzc1_cX11_part_64 di_655 (Nat.zero_lt_succ _) rfl
theorem dX11_part_95 : decode cX11_part 95 = .ok (.iload 4, 2) := dz1 (k := 31) (m := 2) dzc1_cX11_part_64 di_52 (Nat.zero_lt_succ _) rfl
set_option maxRecDepth 100000 in
theorem dzc1_cX11_part_96 : DzLies cX11_part (.mk ⟨[0x04, 0x15, 0x06, 0xb8, 0x00, 0x88, 0x36, 0x04, 0x84, 0x05, 0x01, 0xa7, 0xff, 0x9b, 0x15, 0x04, 0xac]⟩) 96 := dz_lies (m := 17) (Nat.zero_lt_succ _) rfl
theorem dX11_part_97 : decode cX11_part 97 = .ok (.iload 6, 2) := dz1 (k := 1) (m := 2) dzc1_cX11_part_96 di_115 (Nat.zero_lt_succ _) rfl
theorem dX11_part_99 : decode cX11_part 99 = .ok (.invokestatic 136, 3) := dz1 (k := 3) (m := 3) dzc1_cX11_part_96 di_583 (Nat.zero_lt_succ _) rfl
theorem dX11_part_102 : decode cX11_part 102 = .ok (.istore 4, 2) := dz1 (k := 6) (m := 2) dzc1_cX11_part_96 di_51 (Nat.zero_lt_succ _) rfl
theorem dX11_part_104 : decode cX11_part 104 = .ok (.iinc 5 1, 3) := dz1 (k := 8) (m := 3) dzc1_cX11_part_96 di_131 (Nat.zero_lt_succ _) rfl
theorem dX11_part_107 : decode cX11_part 107 = .ok (.goto (-101), 3) := dz1 (k := 11) (m := 3) dzc1_cX11_part_96 di_64 (Nat.zero_lt_succ _) rfl
theorem dX11_part_110 : decode cX11_part 110 = .ok (.iload 4, 2) := dz1 (k := 14) (m := 2) dzc1_cX11_part_96 di_52 (Nat.zero_lt_succ _) rfl
theorem dX11_part_112 : decode cX11_part 112 = .ok (.ireturn, 1) := dz1 (k := 16) (m := 1) dzc1_cX11_part_96 di_13 (Nat.zero_lt_succ _) rfl
set_option maxRecDepth 100000 in
theorem dzc1_cX11_next_0 : DzLies cX11_next (.mk ⟨[0x2a, 0x1b, 0xb6, 0x00, 0x98, 0x99, 0x00, 0x0b, 0x2a, 0x1c, 0xb6, 0x00, 0x4b, 0x9a, 0x00, 0x05, 0x02, 0xac, 0x2a, 0x1c, 0xb6, 0x00, 0xbd, 0x3e, 0x1d, 0x9e, 0x00, 0x09, 0x2a, 0x1d, 0xb6, 0x00, 0x4f]⟩) 0 := dz_lies (m := 33) (Nat.zero_lt_succ _) rfl
theorem dX11_next_0 : decode cX11_next 0 = .ok (.aload_n 0, 1) := dz1 (k := 0) (m := 1) dzc1_cX11_next_0 di_0 (Nat.zero_lt_succ _) rfl
theorem dX11_next_1 : decode cX11_next 1 = .ok (.iload_n 1, 1) := dz1 (k := 1) (m := 1) dzc1_cX11_next_0 di_11 (Nat.zero_lt_succ _) rfl
theorem dX11_next_2 : decode cX11_next 2 = .ok (.invokevirtual 152, 3) := dz1 (k := 2) (m := 3) dzc1_cX11_next_0 di_600 (Nat.zero_lt_succ _) rfl
theorem dX11_next_5 : decode cX11_next 5 = .ok (.ifCond .eq 11, 3) := dz1 (k := 5) (m := 3) dzc1_cX11_next_0 di_238 (Nat.zero_lt_succ _) rfl
theorem dX11_next_8 : decode cX11_next 8 = .ok (.aload_n 0, 1) := dz1 (k := 8) (m := 1) dzc1_cX11_next_0 di_0 (Nat.zero_lt_succ _) rfl
theorem dX11_next_9 : decode cX11_next 9 = .ok (.iload_n 2, 1) := dz1 (k := 9) (m := 1) dzc1_cX11_next_0 di_28 (Nat.zero_lt_succ _) rfl
theorem dX11_next_10 : decode cX11_next 10 = .ok (.invokevirtual 75, 3) := dz1 (k := 10) (m := 3) dzc1_cX11_next_0 di_525 (Nat.zero_lt_succ _) rfl
theorem dX11_next_13 : decode cX11_next 13 = .ok (.ifCond .ne 5, 3) := dz1 (k := 13) (m := 3) dzc1_cX11_next_0 di_239 (Nat.zero_lt_succ _) rfl
theorem dX11_next_16 : decode cX11_next 16 = .ok (.iconst (-1), 1) := dz1 (k := 16) (m := 1) dzc1_cX11_next_0 di_65 (Nat.zero_lt_succ _) rfl
theorem dX11_next_17 : decode cX11_next 17 = .ok (.ireturn, 1) := dz1 (k := 17) (m := 1) dzc1_cX11_next_0 di_13 (Nat.zero_lt_succ _) rfl
theorem dX11_next_18 : decode cX11_next 18 = .ok (.aload_n 0, 1) := dz1 (k := 18) (m := 1) dzc1_cX11_next_0 di_0 (Nat.zero_lt_succ _) rfl
theorem dX11_next_19 : decode cX11_next 19 = .ok (.iload_n 2, 1) := dz1 (k := 19) (m := 1) dzc1_cX11_next_0 di_28 (Nat.zero_lt_succ _) rfl
theorem dX11_next_20 : decode cX11_next 20 = .ok (.invokevirtual 189, 3) := dz1 (k := 20) (m := 3) dzc1_cX11_next_0 di_649 (Nat.zero_lt_succ _) rfl
theorem dX11_next_23 : decode cX11_next 23 = .ok (.istore_n 3, 1) := dz1 (k := 23) (m := 1) dzc1_cX11_next_0 di_50 (Nat.zero_lt_succ _) rfl
theorem dX11_next_24 : decode cX11_next 24 = .ok (.iload_n 3, 1) := dz1 (k := 24) (m := 1) dzc1_cX11_next_0 di_3 (Nat.zero_lt_succ _) rfl
theorem dX11_next_25 : decode cX11_next 25 = .ok (.ifCond .le 9, 3) := dz1 (k := 25) (m := 3) dzc1_cX11_next_0 di_532 (Nat.zero_lt_succ _) rfl
theorem dX11_next_28 : decode cX11_next 28 = .ok (.aload_n 0, 1) := dz1 (k := 28) (m := 1) dzc1_cX11_next_0 di_0 (Nat.zero_lt_succ _) rfl
theorem dX11_next_29 : decode cX11_next 29 = .ok (.iload_n 3, 1) := dz1 (k := 29) (m := 1) dzc1_cX11_next_0 di_3 (Nat.zero_lt_succ _) rfl
theorem dX11_next_30 : decode cX11_next 30 = .ok (.invokevirtual 79, 3) := dz1 (k := 30) (m := 3) dzc1_cX11_next_0 di_526 (Nat.zero_lt_succ _) rfl
set_option maxRecDepth 100000 in
theorem dzc1_cX11_next_32 : DzLies cX11_next (.mk ⟨[0x4f, 0xac, 0x2a, 0x1b, 0x1c, 0xb6, 0x00, 0xc0, 0x36, 0x04, 0x10, 0xf7, 0x36, 0x05, 0x10, 0x09, 0x36, 0x06, 0x04, 0x36, 0x07, 0x15, 0x07, 0x10, 0x0d, 0xa2, 0x00, 0x45, 0x15, 0x04, 0x99, 0x00, 0x40]⟩) 32 := dz_lies (m := 33) (Nat.zero_lt_succ _) rfl
theorem dX11_next_33 : decode cX11_next 33 = .ok (.ireturn, 1) := dz1 (k := 1) (m := 1) dzc1_cX11_next_32 di_13 (Nat.zero_lt_succ _) rfl
theorem dX11_next_34 : decode cX11_next 34 = .ok (.aload_n 0, 1) := dz1 (k := 2) (m := 1) dzc1_cX11_next_32 di_0 (Nat.zero_lt_succ _) rfl
theorem dX11_next_35 : decode cX11_next 35 = .ok (.iload_n 1, 1) := dz1 (k := 3) (m := 1) dzc1_cX11_next_32 di_11 (Nat.zero_lt_succ _) rfl
theorem dX11_next_36 : decode cX11_next 36 = .ok (.iload_n 2, 1) := dz1 (k := 4) (m := 1) dzc1_cX11_next_32 di_28 (Nat.zero_lt_succ _) rfl
theorem dX11_next_37 : decode cX11_next 37 = .ok (.invokevirtual 192, 3) := dz1 (k := 5) (m := 3) dzc1_cX11_next_32 di_652 (Nat.zero_lt_succ _) rfl
theorem dX11_next_40 : decode cX11_next 40 = .ok (.istore 4, 2) := dz1 (k := 8) (m := 2) dzc1_cX11_next_32 di_51 (Nat.zero_lt_succ _) rfl
theorem dX11_next_42 : decode cX11_next 42 = .ok (.bipush (-9), 2) := dz1 (k := 10) (m := 2) dzc1_cX11_next_32 di_102 (Nat.zero_lt_succ _) rfl
theorem dX11_next_44 : decode cX11_next 44 = .ok (.istore 5, 2) := dz1 (k := 12) (m := 2) dzc1_cX11_next_32 di_100 (Nat.zero_lt_succ _) rfl
theorem dX11_next_46 : decode cX11_next 46 = .ok (.bipush 9, 2) := dz1 (k := 14) (m := 2) dzc1_cX11_next_32 di_656 (Nat.zero_lt_succ _) rfl
theorem dX11_next_48 : decode cX11_next 48 = .ok (.istore 6, 2) := dz1 (k := 16) (m := 2) dzc1_cX11_next_32 di_114 (Nat.zero_lt_succ _) rfl
theorem dX11_next_50 : decode cX11_next 50 = .ok (.iconst 1, 1) := dz1 (k := 18) (m := 1) dzc1_cX11_next_32 di_10 (Nat.zero_lt_succ _) rfl
theorem dX11_next_51 : decode cX11_next 51 = .ok (.istore 7, 2) := dz1 (k := 19) (m := 2) dzc1_cX11_next_32 di_116 (Nat.zero_lt_succ _) rfl
theorem dX11_next_53 : decode cX11_next 53 = .ok (.iload 7, 2) := dz1 (k := 21) (m := 2) dzc1_cX11_next_32 di_117 (Nat.zero_lt_succ _) rfl
theorem dX11_next_55 : decode cX11_next 55 = .ok (.bipush 13, 2) := dz1 (k := 23) (m := 2) dzc1_cX11_next_32 di_621 (Nat.zero_lt_succ _) rfl
theorem dX11_next_57 : decode cX11_next 57 = .ok (.if_icmp .ge 69, 3) := dz1 (k := 25) (m := 3) dzc1_cX11_next_32 di_657 (Nat.zero_lt_succ _) rfl
theorem dX11_next_60 : decode cX11_next 60 = .ok (.iload 4, 2) := dz1 (k := 28) (m := 2) dzc1_cX11_next_32 di_52 (Nat.zero_lt_succ _) rfl
theorem dX11_next_62 : decode cX11_next 62 = .ok (.ifCond .eq 64, 3) := dz1 (k := 30) (m := 3) dzc1_cX11_next_32 di_658 (Nat.zero_lt_succ _) rfl
set_option maxRecDepth 100000 in
theorem dzc1_cX11_next_64 : DzLies cX11_next (.mk ⟨[0x40, 0x2a, 0xb4, 0x00, 0x26, 0x08, 0x2e, 0x15, 0x07, 0xb8, 0x00, 0x8b, 0x99, 0x00, 0x0f, 0x2a, 0x1b, 0x15, 0x04, 0x15, 0x07, 0xb6, 0x00, 0xc3, 0xa7, 0x00, 0x05, 0x10, 0x09, 0x36, 0x08, 0x15, 0x08]⟩) 64 := dz_lies (m := 33) (Nat.zero_lt_succ _) rfl
theorem dX11_next_65 : decode cX11_next 65 = .ok (.aload_n 0, 1) := dz1 (k := 1) (m := 1) dzc1_cX11_next_64 di_0 (Nat.zero_lt_succ _) rfl
theorem dX11_next_66 : decode cX11_next 66 = .ok (.getfield 38, 3) := dz1 (k := 2) (m := 3) dzc1_cX11_next_64 di_574 (Nat.zero_lt_succ _) rfl
theorem dX11_next_69 : decode cX11_next 69 = .ok (.iconst 5, 1) := dz1 (k := 5) (m := 1) dzc1_cX11_next_64 di_145 (Nat.zero_lt_succ _) rfl
theorem dX11_next_70 : decode cX11_next 70 = .ok (.iaload, 1) := dz1 (k := 6) (m := 1) dzc1_cX11_next_64 di_30 (Nat.zero_lt_succ _) rfl
theorem dX11_next_71 : decode cX11_next 71 = .ok (.iload 7, 2) := dz1 (k := 7) (m := 2) dzc1_cX11_next_64 di_117 (Nat.zero_lt_succ _) rfl
theorem dX11_next_73 : decode cX11_next 73 = .ok (.invokestatic 139, 3) := dz1 (k := 9) (m := 3) dzc1_cX11_next_64 di_587 (Nat.zero_lt_succ _) rfl
theorem dX11_next_76 : decode cX11_next 76 = .ok (.ifCond .eq 15, 3) := dz1 (k := 12) (m := 3) dzc1_cX11_next_64 di_242 (Nat.zero_lt_succ _) rfl
theorem dX11_next_79 : decode cX11_next 79 = .ok (.aload_n 0, 1) := dz1 (k := 15) (m := 1) dzc1_cX11_next_64 di_0 (Nat.zero_lt_succ _) rfl
theorem dX11_next_80 : decode cX11_next 80 = .ok (.iload_n 1, 1) := dz1 (k := 16) (m := 1) dzc1_cX11_next_64 di_11 (Nat.zero_lt_succ _) rfl
theorem dX11_next_81 : decode cX11_next 81 = .ok (.iload 4, 2) := dz1 (k := 17) (m := 2) dzc1_cX11_next_64 di_52 (Nat.zero_lt_succ _) rfl
theorem dX11_next_83 : decode cX11_next 83 = .ok (.iload 7, 2) := dz1 (k := 19) (m := 2) dzc1_cX11_next_64 di_117 (Nat.zero_lt_succ _) rfl
theorem dX11_next_85 : decode cX11_next 85 = .ok (.invokevirtual 195, 3) := dz1 (k := 21) (m := 3) dzc1_cX11_next_64 di_659 (Nat.zero_lt_succ _) rfl
theorem dX11_next_88 : decode cX11_next 88 = .ok (.goto 5, 3) := dz1 (k := 24) (m := 3) dzc1_cX11_next_64 di_106 (Nat.zero_lt_succ _) rfl
theorem dX11_next_91 : decode cX11_next 91 = .ok (.bipush 9, 2) := dz1 (k := 27) (m := 2) dzc1_cX11_next_64 di_656 (Nat.zero_lt_succ _) rfl
theorem dX11_next_93 : decode cX11_next 93 = .ok (.istore 8, 2) := dz1 (k := 29) (m := 2) dzc1_cX11_next_64 di_363 (Nat.zero_lt_succ _) rfl
theorem dX11_next_95 : decode cX11_next 95 = .ok (.iload 8, 2) := dz1 (k := 31) (m := 2) dzc1_cX11_next_64 di_364 (Nat.zero_lt_succ _) rfl
set_option maxRecDepth 100000 in
theorem dzc1_cX11_next_96 : DzLies cX11_next (.mk ⟨[0x08, 0x15, 0x06, 0xa2, 0x00, 0x08, 0x15, 0x07, 0xa7, 0x00, 0x05, 0x15, 0x05, 0x36, 0x05, 0x15, 0x08, 0x15, 0x06, 0xb8, 0x00, 0x65, 0x36, 0x06, 0x84, 0x07, 0x01, 0xa7, 0xff, 0xba, 0x2a, 0x15, 0x05]⟩) 96 := dz_lies (m := 33) (Nat.zero_lt_succ _) rfl
theorem dX11_next_97 : decode cX11_next 97 = .ok (.iload 6, 2) := dz1 (k := 1) (m := 2) dzc1_cX11_next_96 di_115 (Nat.zero_lt_succ _) rfl
theorem dX11_next_99 : decode cX11_next 99 = .ok (.if_icmp .ge 8, 3) := dz1 (k := 3) (m := 3) dzc1_cX11_next_96 di_436 (Nat.zero_lt_succ _) rfl
theorem dX11_next_102 : decode cX11_next 102 = .ok (.iload 7, 2) := dz1 (k := 6) (m := 2) dzc1_cX11_next_96 di_117 (Nat.zero_lt_succ _) rfl
theorem dX11_next_104 : decode cX11_next 104 = .ok (.goto 5, 3) := dz1 (k := 8) (m := 3) dzc1_cX11_next_96 di_106 (Nat.zero_lt_succ _) rfl
theorem dX11_next_107 : decode cX11_next 107 = .ok (.iload 5, 2) := dz1 (k := 11) (m := 2) dzc1_cX11_next_96 di_101 (Nat.zero_lt_succ _) rfl
theorem dX11_next_109 : decode cX11_next 109 = .ok (.istore 5, 2) := dz1 (k := 13) (m := 2) dzc1_cX11_next_96 di_100 (Nat.zero_lt_succ _) rfl
theorem dX11_next_111 : decode cX11_next 111 = .ok (.iload 8, 2) := dz1 (k := 15) (m := 2) dzc1_cX11_next_96 di_364 (Nat.zero_lt_succ _) rfl
theorem dX11_next_113 : decode cX11_next 113 = .ok (.iload 6, 2) := dz1 (k := 17) (m := 2) dzc1_cX11_next_96 di_115 (Nat.zero_lt_succ _) rfl
theorem dX11_next_115 : decode cX11_next 115 = .ok (.invokestatic 101, 3) := dz1 (k := 19) (m := 3) dzc1_cX11_next_96 di_557 (Nat.zero_lt_succ _) rfl
theorem dX11_next_118 : decode cX11_next 118 = .ok (.istore 6, 2) := dz1 (k := 22) (m := 2) dzc1_cX11_next_96 di_114 (Nat.zero_lt_succ _) rfl
theorem dX11_next_120 : decode cX11_next 120 = .ok (.iinc 7 1, 3) := dz1 (k := 24) (m := 3) dzc1_cX11_next_96 di_123 (Nat.zero_lt_succ _) rfl
theorem dX11_next_123 : decode cX11_next 123 = .ok (.goto (-70), 3) := dz1 (k := 27) (m := 3) dzc1_cX11_next_96 di_660 (Nat.zero_lt_succ _) rfl
theorem dX11_next_126 : decode cX11_next 126 = .ok (.aload_n 0, 1) := dz1 (k := 30) (m := 1) dzc1_cX11_next_96 di_0 (Nat.zero_lt_succ _) rfl
theorem dX11_next_127 : decode cX11_next 127 = .ok (.iload 5, 2) := dz1 (k := 31) (m := 2) dzc1_cX11_next_96 di_101 (Nat.zero_lt_succ _) rfl
set_option maxRecDepth 100000 in
theorem dzc1_cX11_next_128 : DzLies cX11_next (.mk ⟨[0x05, 0x9c, 0x00, 0x0a, 0x2a, 0xb4, 0x00, 0x40, 0xa7, 0x00, 0x05, 0x15, 0x06, 0xb5, 0x00, 0x40, 0x15, 0x05, 0xac]⟩) 128 := dz_lies (m := 19) (Nat.zero_lt_succ _) rfl
theorem dX11_next_129 : decode cX11_next 129 = .ok (.ifCond .ge 10, 3) := dz1 (k := 1) (m := 3) dzc1_cX11_next_128 di_661 (Nat.zero_lt_succ _) rfl
theorem dX11_next_132 : decode cX11_next 132 = .ok (.aload_n 0, 1) := dz1 (k := 4) (m := 1) dzc1_cX11_next_128 di_0 (Nat.zero_lt_succ _) rfl
theorem dX11_next_133 : decode cX11_next 133 = .ok (.getfield 64, 3) := dz1 (k := 5) (m := 3) dzc1_cX11_next_128 di_435 (Nat.zero_lt_succ _) rfl
theorem dX11_next_136 : decode cX11_next 136 = .ok (.goto 5, 3) := dz1 (k := 8) (m := 3) dzc1_cX11_next_128 di_106 (Nat.zero_lt_succ _) rfl
theorem dX11_next_139 : decode cX11_next 139 = .ok (.iload 6, 2) := dz1 (k := 11) (m := 2) dzc1_cX11_next_128 di_115 (Nat.zero_lt_succ _) rfl
theorem dX11_next_141 : decode cX11_next 141 = .ok (.putfield 64, 3) := dz1 (k := 13) (m := 3) dzc1_cX11_next_128 di_215 (Nat.zero_lt_succ _) rfl
theorem dX11_next_144 : decode cX11_next 144 = .ok (.iload 5, 2) := dz1 (k := 16) (m := 2) dzc1_cX11_next_128 di_101 (Nat.zero_lt_succ _) rfl
theorem dX11_next_146 : decode cX11_next 146 = .ok (.ireturn, 1) := dz1 (k := 18) (m := 1) dzc1_cX11_next_128 di_13 (Nat.zero_lt_succ _) rfl
set_option maxRecDepth 100000 in
theorem dzc1_cX11_worthOf_0 : DzLies cX11_worthOf (.mk ⟨[0x2a, 0xb4, 0x00, 0x26, 0x1b, 0x07, 0x60, 0x2e, 0x36, 0x04, 0x2a, 0xb4, 0x00, 0x26, 0x1b, 0x1c, 0x60, 0x2e, 0xb8, 0x00, 0x85, 0x2a, 0xb4, 0x00, 0x26, 0x1b, 0x1d, 0x60, 0x2e, 0xb8, 0x00, 0x85]⟩) 0 := dz_lies (m := 32) (Nat.zero_lt_succ _) rfl
theorem dX11_worthOf_0 : decode cX11_worthOf 0 = .ok (.aload_n 0, 1) := dz1 (k := 0) (m := 1) dzc1_cX11_worthOf_0 di_0 (Nat.zero_lt_succ _) rfl
theorem dX11_worthOf_1 : decode cX11_worthOf 1 = .ok (.getfield 38, 3) := dz1 (k := 1) (m := 3) dzc1_cX11_worthOf_0 di_574 (Nat.zero_lt_succ _) rfl
theorem dX11_worthOf_4 : decode cX11_worthOf 4 = .ok (.iload_n 1, 1) := dz1 (k := 4) (m := 1) dzc1_cX11_worthOf_0 di_11 (Nat.zero_lt_succ _) rfl
theorem dX11_worthOf_5 : decode cX11_worthOf 5 = .ok (.iconst 4, 1) := dz1 (k := 5) (m := 1) dzc1_cX11_worthOf_0 di_33 (Nat.zero_lt_succ _) rfl
theorem dX11_worthOf_6 : decode cX11_worthOf 6 = .ok (.iadd, 1) := dz1 (k := 6) (m := 1) dzc1_cX11_worthOf_0 di_24 (Nat.zero_lt_succ _) rfl
theorem dX11_worthOf_7 : decode cX11_worthOf 7 = .ok (.iaload, 1) := dz1 (k := 7) (m := 1) dzc1_cX11_worthOf_0 di_30 (Nat.zero_lt_succ _) rfl
theorem dX11_worthOf_8 : decode cX11_worthOf 8 = .ok (.istore 4, 2) := dz1 (k := 8) (m := 2) dzc1_cX11_worthOf_0 di_51 (Nat.zero_lt_succ _) rfl
theorem dX11_worthOf_10 : decode cX11_worthOf 10 = .ok (.aload_n 0, 1) := dz1 (k := 10) (m := 1) dzc1_cX11_worthOf_0 di_0 (Nat.zero_lt_succ _) rfl
theorem dX11_worthOf_11 : decode cX11_worthOf 11 = .ok (.getfield 38, 3) := dz1 (k := 11) (m := 3) dzc1_cX11_worthOf_0 di_574 (Nat.zero_lt_succ _) rfl
theorem dX11_worthOf_14 : decode cX11_worthOf 14 = .ok (.iload_n 1, 1) := dz1 (k := 14) (m := 1) dzc1_cX11_worthOf_0 di_11 (Nat.zero_lt_succ _) rfl
theorem dX11_worthOf_15 : decode cX11_worthOf 15 = .ok (.iload_n 2, 1) := dz1 (k := 15) (m := 1) dzc1_cX11_worthOf_0 di_28 (Nat.zero_lt_succ _) rfl
theorem dX11_worthOf_16 : decode cX11_worthOf 16 = .ok (.iadd, 1) := dz1 (k := 16) (m := 1) dzc1_cX11_worthOf_0 di_24 (Nat.zero_lt_succ _) rfl
theorem dX11_worthOf_17 : decode cX11_worthOf 17 = .ok (.iaload, 1) := dz1 (k := 17) (m := 1) dzc1_cX11_worthOf_0 di_30 (Nat.zero_lt_succ _) rfl
theorem dX11_worthOf_18 : decode cX11_worthOf 18 = .ok (.invokestatic 133, 3) := dz1 (k := 18) (m := 3) dzc1_cX11_worthOf_0 di_582 (Nat.zero_lt_succ _) rfl
theorem dX11_worthOf_21 : decode cX11_worthOf 21 = .ok (.aload_n 0, 1) := dz1 (k := 21) (m := 1) dzc1_cX11_worthOf_0 di_0 (Nat.zero_lt_succ _) rfl
theorem dX11_worthOf_22 : decode cX11_worthOf 22 = .ok (.getfield 38, 3) := dz1 (k := 22) (m := 3) dzc1_cX11_worthOf_0 di_574 (Nat.zero_lt_succ _) rfl
theorem dX11_worthOf_25 : decode cX11_worthOf 25 = .ok (.iload_n 1, 1) := dz1 (k := 25) (m := 1) dzc1_cX11_worthOf_0 di_11 (Nat.zero_lt_succ _) rfl
theorem dX11_worthOf_26 : decode cX11_worthOf 26 = .ok (.iload_n 3, 1) := dz1 (k := 26) (m := 1) dzc1_cX11_worthOf_0 di_3 (Nat.zero_lt_succ _) rfl
theorem dX11_worthOf_27 : decode cX11_worthOf 27 = .ok (.iadd, 1) := dz1 (k := 27) (m := 1) dzc1_cX11_worthOf_0 di_24 (Nat.zero_lt_succ _) rfl
theorem dX11_worthOf_28 : decode cX11_worthOf 28 = .ok (.iaload, 1) := dz1 (k := 28) (m := 1) dzc1_cX11_worthOf_0 di_30 (Nat.zero_lt_succ _) rfl
theorem dX11_worthOf_29 : decode cX11_worthOf 29 = .ok (.invokestatic 133, 3) := dz1 (k := 29) (m := 3) dzc1_cX11_worthOf_0 di_582 (Nat.zero_lt_succ _) rfl
set_option maxRecDepth 100000 in
theorem dzc1_cX11_worthOf_32 : DzLies cX11_worthOf (.mk ⟨[0x64, 0x15, 0x04, 0x1c, 0xb8, 0x00, 0x8b, 0x99, 0x00, 0x08, 0x10, 0x0a, 0xa7, 0x00, 0x04, 0x03, 0x60, 0x15, 0x04, 0x1d, 0xb8, 0x00, 0x8b, 0x99, 0x00, 0x08, 0x10, 0x0a, 0xa7, 0x00, 0x04, 0x03]⟩) 32 := dz_lies (m := 32) (Nat.zero_lt_succ _) rfl
theorem dX11_worthOf_32 : decode cX11_worthOf 32 = .ok (.isub, 1) := dz1 (k := 0) (m := 1) dzc1_cX11_worthOf_32 di_14 (Nat.zero_lt_succ _) rfl
theorem dX11_worthOf_33 : decode cX11_worthOf 33 = .ok (.iload 4, 2) := dz1 (k := 1) (m := 2) dzc1_cX11_worthOf_32 di_52 (Nat.zero_lt_succ _) rfl
theorem dX11_worthOf_35 : decode cX11_worthOf 35 = .ok (.iload_n 2, 1) := dz1 (k := 3) (m := 1) dzc1_cX11_worthOf_32 di_28 (Nat.zero_lt_succ _) rfl
theorem dX11_worthOf_36 : decode cX11_worthOf 36 = .ok (.invokestatic 139, 3) := dz1 (k := 4) (m := 3) dzc1_cX11_worthOf_32 di_587 (Nat.zero_lt_succ _) rfl
theorem dX11_worthOf_39 : decode cX11_worthOf 39 = .ok (.ifCond .eq 8, 3) := dz1 (k := 7) (m := 3) dzc1_cX11_worthOf_32 di_72 (Nat.zero_lt_succ _) rfl
theorem dX11_worthOf_42 : decode cX11_worthOf 42 = .ok (.bipush 10, 2) := dz1 (k := 10) (m := 2) dzc1_cX11_worthOf_32 di_73 (Nat.zero_lt_succ _) rfl
theorem dX11_worthOf_44 : decode cX11_worthOf 44 = .ok (.goto 4, 3) := dz1 (k := 12) (m := 3) dzc1_cX11_worthOf_32 di_49 (Nat.zero_lt_succ _) rfl
theorem dX11_worthOf_47 : decode cX11_worthOf 47 = .ok (.iconst 0, 1) := dz1 (k := 15) (m := 1) dzc1_cX11_worthOf_32 di_8 (Nat.zero_lt_succ _) rfl
theorem dX11_worthOf_48 : decode cX11_worthOf 48 = .ok (.iadd, 1) := dz1 (k := 16) (m := 1) dzc1_cX11_worthOf_32 di_24 (Nat.zero_lt_succ _) rfl
theorem dX11_worthOf_49 : decode cX11_worthOf 49 = .ok (.iload 4, 2) := dz1 (k := 17) (m := 2) dzc1_cX11_worthOf_32 di_52 (Nat.zero_lt_succ _) rfl
theorem dX11_worthOf_51 : decode cX11_worthOf 51 = .ok (.iload_n 3, 1) := dz1 (k := 19) (m := 1) dzc1_cX11_worthOf_32 di_3 (Nat.zero_lt_succ _) rfl
theorem dX11_worthOf_52 : decode cX11_worthOf 52 = .ok (.invokestatic 139, 3) := dz1 (k := 20) (m := 3) dzc1_cX11_worthOf_32 di_587 (Nat.zero_lt_succ _) rfl
theorem dX11_worthOf_55 : decode cX11_worthOf 55 = .ok (.ifCond .eq 8, 3) := dz1 (k := 23) (m := 3) dzc1_cX11_worthOf_32 di_72 (Nat.zero_lt_succ _) rfl
theorem dX11_worthOf_58 : decode cX11_worthOf 58 = .ok (.bipush 10, 2) := dz1 (k := 26) (m := 2) dzc1_cX11_worthOf_32 di_73 (Nat.zero_lt_succ _) rfl
theorem dX11_worthOf_60 : decode cX11_worthOf 60 = .ok (.goto 4, 3) := dz1 (k := 28) (m := 3) dzc1_cX11_worthOf_32 di_49 (Nat.zero_lt_succ _) rfl
theorem dX11_worthOf_63 : decode cX11_worthOf 63 = .ok (.iconst 0, 1) := dz1 (k := 31) (m := 1) dzc1_cX11_worthOf_32 di_8 (Nat.zero_lt_succ _) rfl
set_option maxRecDepth 100000 in
theorem dzc1_cX11_worthOf_64 : DzLies cX11_worthOf (.mk ⟨[0x64, 0xac]⟩) 64 := dz_lies (m := 2) (Nat.zero_lt_succ _) rfl
theorem dX11_worthOf_64 : decode cX11_worthOf 64 = .ok (.isub, 1) := dz1 (k := 0) (m := 1) dzc1_cX11_worthOf_64 di_14 (Nat.zero_lt_succ _) rfl
theorem dX11_worthOf_65 : decode cX11_worthOf 65 = .ok (.ireturn, 1) := dz1 (k := 1) (m := 1) dzc1_cX11_worthOf_64 di_13 (Nat.zero_lt_succ _) rfl
set_option maxRecDepth 100000 in
theorem dzc1_cX11_duel_0 : DzLies cX11_duel (.mk ⟨[0x2a, 0x1b, 0xb6, 0x00, 0x98, 0x99, 0x00, 0x1c, 0x2a, 0x1c, 0xb6, 0x00, 0x98, 0x99, 0x00, 0x14, 0x1b, 0x1c, 0x9f, 0x00, 0x0f, 0x1d, 0x85, 0x09, 0x14, 0x00, 0xaa, 0xb8, 0x00, 0x45, 0x9a, 0x00, 0x05]⟩) 0 := dz_lies (m := 33) (Nat.zero_lt_succ _) rfl
theorem dX11_duel_0 : decode cX11_duel 0 = .ok (.aload_n 0, 1) := dz1 (k := 0) (m := 1) dzc1_cX11_duel_0 di_0 (Nat.zero_lt_succ _) rfl
theorem dX11_duel_1 : decode cX11_duel 1 = .ok (.iload_n 1, 1) := dz1 (k := 1) (m := 1) dzc1_cX11_duel_0 di_11 (Nat.zero_lt_succ _) rfl
theorem dX11_duel_2 : decode cX11_duel 2 = .ok (.invokevirtual 152, 3) := dz1 (k := 2) (m := 3) dzc1_cX11_duel_0 di_600 (Nat.zero_lt_succ _) rfl
theorem dX11_duel_5 : decode cX11_duel 5 = .ok (.ifCond .eq 28, 3) := dz1 (k := 5) (m := 3) dzc1_cX11_duel_0 di_440 (Nat.zero_lt_succ _) rfl
theorem dX11_duel_8 : decode cX11_duel 8 = .ok (.aload_n 0, 1) := dz1 (k := 8) (m := 1) dzc1_cX11_duel_0 di_0 (Nat.zero_lt_succ _) rfl
theorem dX11_duel_9 : decode cX11_duel 9 = .ok (.iload_n 2, 1) := dz1 (k := 9) (m := 1) dzc1_cX11_duel_0 di_28 (Nat.zero_lt_succ _) rfl
theorem dX11_duel_10 : decode cX11_duel 10 = .ok (.invokevirtual 152, 3) := dz1 (k := 10) (m := 3) dzc1_cX11_duel_0 di_600 (Nat.zero_lt_succ _) rfl
theorem dX11_duel_13 : decode cX11_duel 13 = .ok (.ifCond .eq 20, 3) := dz1 (k := 13) (m := 3) dzc1_cX11_duel_0 di_625 (Nat.zero_lt_succ _) rfl
theorem dX11_duel_16 : decode cX11_duel 16 = .ok (.iload_n 1, 1) := dz1 (k := 16) (m := 1) dzc1_cX11_duel_0 di_11 (Nat.zero_lt_succ _) rfl
theorem dX11_duel_17 : decode cX11_duel 17 = .ok (.iload_n 2, 1) := dz1 (k := 17) (m := 1) dzc1_cX11_duel_0 di_28 (Nat.zero_lt_succ _) rfl
theorem dX11_duel_18 : decode cX11_duel 18 = .ok (.if_icmp .eq 15, 3) := dz1 (k := 18) (m := 3) dzc1_cX11_duel_0 di_320 (Nat.zero_lt_succ _) rfl
theorem dX11_duel_21 : decode cX11_duel 21 = .ok (.iload_n 3, 1) := dz1 (k := 21) (m := 1) dzc1_cX11_duel_0 di_3 (Nat.zero_lt_succ _) rfl
theorem dX11_duel_22 : decode cX11_duel 22 = .ok (.i2l, 1) := dz1 (k := 22) (m := 1) dzc1_cX11_duel_0 di_250 (Nat.zero_lt_succ _) rfl
theorem dX11_duel_23 : decode cX11_duel 23 = .ok (.lconst 0, 1) := dz1 (k := 23) (m := 1) dzc1_cX11_duel_0 di_246 (Nat.zero_lt_succ _) rfl
theorem dX11_duel_24 : decode cX11_duel 24 = .ok (.ldc2_w 170, 3) := dz1 (k := 24) (m := 3) dzc1_cX11_duel_0 di_613 (Nat.zero_lt_succ _) rfl
theorem dX11_duel_27 : decode cX11_duel 27 = .ok (.invokestatic 69, 3) := dz1 (k := 27) (m := 3) dzc1_cX11_duel_0 di_522 (Nat.zero_lt_succ _) rfl
theorem dX11_duel_30 : decode cX11_duel 30 = .ok (.ifCond .ne 5, 3) := dz1 (k := 30) (m := 3) dzc1_cX11_duel_0 di_239 (Nat.zero_lt_succ _) rfl
set_option maxRecDepth 100000 in
theorem dzc1_cX11_duel_32 : DzLies cX11_duel (.mk ⟨[0x05, 0x02, 0xac, 0x05, 0x1d, 0x68, 0x2a, 0xb4, 0x00, 0x26, 0x08, 0x2e, 0xb8, 0x00, 0x85, 0xb8, 0x00, 0x65, 0x36, 0x04, 0x2a, 0x03, 0x11, 0x05, 0x20, 0x10, 0x08, 0xb6, 0x00, 0xa0, 0x03, 0x36, 0x05]⟩) 32 := dz_lies (m := 33) (Nat.zero_lt_succ _) rfl
theorem dX11_duel_33 : decode cX11_duel 33 = .ok (.iconst (-1), 1) := dz1 (k := 1) (m := 1) dzc1_cX11_duel_32 di_65 (Nat.zero_lt_succ _) rfl
theorem dX11_duel_34 : decode cX11_duel 34 = .ok (.ireturn, 1) := dz1 (k := 2) (m := 1) dzc1_cX11_duel_32 di_13 (Nat.zero_lt_succ _) rfl
theorem dX11_duel_35 : decode cX11_duel 35 = .ok (.iconst 2, 1) := dz1 (k := 3) (m := 1) dzc1_cX11_duel_32 di_6 (Nat.zero_lt_succ _) rfl
theorem dX11_duel_36 : decode cX11_duel 36 = .ok (.iload_n 3, 1) := dz1 (k := 4) (m := 1) dzc1_cX11_duel_32 di_3 (Nat.zero_lt_succ _) rfl
theorem dX11_duel_37 : decode cX11_duel 37 = .ok (.imul, 1) := dz1 (k := 5) (m := 1) dzc1_cX11_duel_32 di_113 (Nat.zero_lt_succ _) rfl
theorem dX11_duel_38 : decode cX11_duel 38 = .ok (.aload_n 0, 1) := dz1 (k := 6) (m := 1) dzc1_cX11_duel_32 di_0 (Nat.zero_lt_succ _) rfl
theorem dX11_duel_39 : decode cX11_duel 39 = .ok (.getfield 38, 3) := dz1 (k := 7) (m := 3) dzc1_cX11_duel_32 di_574 (Nat.zero_lt_succ _) rfl
theorem dX11_duel_42 : decode cX11_duel 42 = .ok (.iconst 5, 1) := dz1 (k := 10) (m := 1) dzc1_cX11_duel_32 di_145 (Nat.zero_lt_succ _) rfl
theorem dX11_duel_43 : decode cX11_duel 43 = .ok (.iaload, 1) := dz1 (k := 11) (m := 1) dzc1_cX11_duel_32 di_30 (Nat.zero_lt_succ _) rfl
theorem dX11_duel_44 : decode cX11_duel 44 = .ok (.invokestatic 133, 3) := dz1 (k := 12) (m := 3) dzc1_cX11_duel_32 di_582 (Nat.zero_lt_succ _) rfl
theorem dX11_duel_47 : decode cX11_duel 47 = .ok (.invokestatic 101, 3) := dz1 (k := 15) (m := 3) dzc1_cX11_duel_32 di_557 (Nat.zero_lt_succ _) rfl
theorem dX11_duel_50 : decode cX11_duel 50 = .ok (.istore 4, 2) := dz1 (k := 18) (m := 2) dzc1_cX11_duel_32 di_51 (Nat.zero_lt_succ _) rfl
theorem dX11_duel_52 : decode cX11_duel 52 = .ok (.aload_n 0, 1) := dz1 (k := 20) (m := 1) dzc1_cX11_duel_32 di_0 (Nat.zero_lt_succ _) rfl
theorem dX11_duel_53 : decode cX11_duel 53 = .ok (.iconst 0, 1) := dz1 (k := 21) (m := 1) dzc1_cX11_duel_32 di_8 (Nat.zero_lt_succ _) rfl
theorem dX11_duel_54 : decode cX11_duel 54 = .ok (.sipush 1312, 3) := dz1 (k := 22) (m := 3) dzc1_cX11_duel_32 di_616 (Nat.zero_lt_succ _) rfl
theorem dX11_duel_57 : decode cX11_duel 57 = .ok (.bipush 8, 2) := dz1 (k := 25) (m := 2) dzc1_cX11_duel_32 di_184 (Nat.zero_lt_succ _) rfl
theorem dX11_duel_59 : decode cX11_duel 59 = .ok (.invokevirtual 160, 3) := dz1 (k := 27) (m := 3) dzc1_cX11_duel_32 di_610 (Nat.zero_lt_succ _) rfl
theorem dX11_duel_62 : decode cX11_duel 62 = .ok (.iconst 0, 1) := dz1 (k := 30) (m := 1) dzc1_cX11_duel_32 di_8 (Nat.zero_lt_succ _) rfl
theorem dX11_duel_63 : decode cX11_duel 63 = .ok (.istore 5, 2) := dz1 (k := 31) (m := 2) dzc1_cX11_duel_32 di_100 (Nat.zero_lt_succ _) rfl
set_option maxRecDepth 100000 in
theorem dzc1_cX11_duel_64 : DzLies cX11_duel (.mk ⟨[0x05, 0x2a, 0xb4, 0x00, 0x33, 0x03, 0x03, 0x4f, 0x2a, 0xb4, 0x00, 0x39, 0x03, 0x15, 0x04, 0x9a, 0x00, 0x0f, 0x2a, 0x11, 0x05, 0x20, 0x1b, 0x1c, 0xb6, 0x00, 0xc6, 0xa7, 0x00, 0x06, 0x11, 0xfc, 0x19]⟩) 64 := dz_lies (m := 33) (Nat.zero_lt_succ _) rfl
theorem dX11_duel_65 : decode cX11_duel 65 = .ok (.aload_n 0, 1) := dz1 (k := 1) (m := 1) dzc1_cX11_duel_64 di_0 (Nat.zero_lt_succ _) rfl
theorem dX11_duel_66 : decode cX11_duel 66 = .ok (.getfield 51, 3) := dz1 (k := 2) (m := 3) dzc1_cX11_duel_64 di_155 (Nat.zero_lt_succ _) rfl
theorem dX11_duel_69 : decode cX11_duel 69 = .ok (.iconst 0, 1) := dz1 (k := 5) (m := 1) dzc1_cX11_duel_64 di_8 (Nat.zero_lt_succ _) rfl
theorem dX11_duel_70 : decode cX11_duel 70 = .ok (.iconst 0, 1) := dz1 (k := 6) (m := 1) dzc1_cX11_duel_64 di_8 (Nat.zero_lt_succ _) rfl
theorem dX11_duel_71 : decode cX11_duel 71 = .ok (.iastore, 1) := dz1 (k := 7) (m := 1) dzc1_cX11_duel_64 di_22 (Nat.zero_lt_succ _) rfl
theorem dX11_duel_72 : decode cX11_duel 72 = .ok (.aload_n 0, 1) := dz1 (k := 8) (m := 1) dzc1_cX11_duel_64 di_0 (Nat.zero_lt_succ _) rfl
theorem dX11_duel_73 : decode cX11_duel 73 = .ok (.getfield 57, 3) := dz1 (k := 9) (m := 3) dzc1_cX11_duel_64 di_662 (Nat.zero_lt_succ _) rfl
theorem dX11_duel_76 : decode cX11_duel 76 = .ok (.iconst 0, 1) := dz1 (k := 12) (m := 1) dzc1_cX11_duel_64 di_8 (Nat.zero_lt_succ _) rfl
theorem dX11_duel_77 : decode cX11_duel 77 = .ok (.iload 4, 2) := dz1 (k := 13) (m := 2) dzc1_cX11_duel_64 di_52 (Nat.zero_lt_succ _) rfl
theorem dX11_duel_79 : decode cX11_duel 79 = .ok (.ifCond .ne 15, 3) := dz1 (k := 15) (m := 3) dzc1_cX11_duel_64 di_637 (Nat.zero_lt_succ _) rfl
theorem dX11_duel_82 : decode cX11_duel 82 = .ok (.aload_n 0, 1) := dz1 (k := 18) (m := 1) dzc1_cX11_duel_64 di_0 (Nat.zero_lt_succ _) rfl
theorem dX11_duel_83 : decode cX11_duel 83 = .ok (.sipush 1312, 3) := dz1 (k := 19) (m := 3) dzc1_cX11_duel_64 di_616 (Nat.zero_lt_succ _) rfl
theorem dX11_duel_86 : decode cX11_duel 86 = .ok (.iload_n 1, 1) := dz1 (k := 22) (m := 1) dzc1_cX11_duel_64 di_11 (Nat.zero_lt_succ _) rfl
theorem dX11_duel_87 : decode cX11_duel 87 = .ok (.iload_n 2, 1) := dz1 (k := 23) (m := 1) dzc1_cX11_duel_64 di_28 (Nat.zero_lt_succ _) rfl
theorem dX11_duel_88 : decode cX11_duel 88 = .ok (.invokevirtual 198, 3) := dz1 (k := 24) (m := 3) dzc1_cX11_duel_64 di_663 (Nat.zero_lt_succ _) rfl
theorem dX11_duel_91 : decode cX11_duel 91 = .ok (.goto 6, 3) := dz1 (k := 27) (m := 3) dzc1_cX11_duel_64 di_9 (Nat.zero_lt_succ _) rfl
theorem dX11_duel_94 : decode cX11_duel 94 = .ok (.sipush (-999), 3) := dz1 (k := 30) (m := 3) dzc1_cX11_duel_64 di_664 (Nat.zero_lt_succ _) rfl
set_option maxRecDepth 100000 in
theorem dzc1_cX11_duel_96 : DzLies cX11_duel (.mk ⟨[0x19, 0x4f, 0x15, 0x05, 0x9b, 0x00, 0xe2, 0x15, 0x04, 0x9e, 0x00, 0xdd, 0x2a, 0xb4, 0x00, 0x33, 0x15, 0x05, 0x2e, 0x04, 0x60, 0x36, 0x06, 0x15, 0x06, 0x10, 0x0d, 0xa2, 0x00, 0x21, 0x2a, 0xb4, 0x00, 0x26]⟩) 96 := dz_lies (m := 34) (Nat.zero_lt_succ _) rfl
theorem dX11_duel_97 : decode cX11_duel 97 = .ok (.iastore, 1) := dz1 (k := 1) (m := 1) dzc1_cX11_duel_96 di_22 (Nat.zero_lt_succ _) rfl
theorem dX11_duel_98 : decode cX11_duel 98 = .ok (.iload 5, 2) := dz1 (k := 2) (m := 2) dzc1_cX11_duel_96 di_101 (Nat.zero_lt_succ _) rfl
theorem dX11_duel_100 : decode cX11_duel 100 = .ok (.ifCond .lt 226, 3) := dz1 (k := 4) (m := 3) dzc1_cX11_duel_96 di_665 (Nat.zero_lt_succ _) rfl
theorem dX11_duel_103 : decode cX11_duel 103 = .ok (.iload 4, 2) := dz1 (k := 7) (m := 2) dzc1_cX11_duel_96 di_52 (Nat.zero_lt_succ _) rfl
theorem dX11_duel_105 : decode cX11_duel 105 = .ok (.ifCond .le 221, 3) := dz1 (k := 9) (m := 3) dzc1_cX11_duel_96 di_666 (Nat.zero_lt_succ _) rfl
theorem dX11_duel_108 : decode cX11_duel 108 = .ok (.aload_n 0, 1) := dz1 (k := 12) (m := 1) dzc1_cX11_duel_96 di_0 (Nat.zero_lt_succ _) rfl
theorem dX11_duel_109 : decode cX11_duel 109 = .ok (.getfield 51, 3) := dz1 (k := 13) (m := 3) dzc1_cX11_duel_96 di_155 (Nat.zero_lt_succ _) rfl
theorem dX11_duel_112 : decode cX11_duel 112 = .ok (.iload 5, 2) := dz1 (k := 16) (m := 2) dzc1_cX11_duel_96 di_101 (Nat.zero_lt_succ _) rfl
theorem dX11_duel_114 : decode cX11_duel 114 = .ok (.iaload, 1) := dz1 (k := 18) (m := 1) dzc1_cX11_duel_96 di_30 (Nat.zero_lt_succ _) rfl
theorem dX11_duel_115 : decode cX11_duel 115 = .ok (.iconst 1, 1) := dz1 (k := 19) (m := 1) dzc1_cX11_duel_96 di_10 (Nat.zero_lt_succ _) rfl
theorem dX11_duel_116 : decode cX11_duel 116 = .ok (.iadd, 1) := dz1 (k := 20) (m := 1) dzc1_cX11_duel_96 di_24 (Nat.zero_lt_succ _) rfl
theorem dX11_duel_117 : decode cX11_duel 117 = .ok (.istore 6, 2) := dz1 (k := 21) (m := 2) dzc1_cX11_duel_96 di_114 (Nat.zero_lt_succ _) rfl
theorem dX11_duel_119 : decode cX11_duel 119 = .ok (.iload 6, 2) := dz1 (k := 23) (m := 2) dzc1_cX11_duel_96 di_115 (Nat.zero_lt_succ _) rfl
theorem dX11_duel_121 : decode cX11_duel 121 = .ok (.bipush 13, 2) := dz1 (k := 25) (m := 2) dzc1_cX11_duel_96 di_621 (Nat.zero_lt_succ _) rfl
theorem dX11_duel_123 : decode cX11_duel 123 = .ok (.if_icmp .ge 33, 3) := dz1 (k := 27) (m := 3) dzc1_cX11_duel_96 di_667 (Nat.zero_lt_succ _) rfl
theorem dX11_duel_126 : decode cX11_duel 126 = .ok (.aload_n 0, 1) := dz1 (k := 30) (m := 1) dzc1_cX11_duel_96 di_0 (Nat.zero_lt_succ _) rfl
theorem dX11_duel_127 : decode cX11_duel 127 = .ok (.getfield 38, 3) := dz1 (k := 31) (m := 3) dzc1_cX11_duel_96 di_574 (Nat.zero_lt_succ _) rfl
set_option maxRecDepth 100000 in
theorem dzc1_cX11_duel_128 : DzLies cX11_duel (.mk ⟨[0x00, 0x26, 0x11, 0x05, 0x20, 0x15, 0x05, 0x10, 0x08, 0x68, 0x60, 0x08, 0x60, 0x2e, 0x15, 0x06, 0xb8, 0x00, 0x8b, 0x9a, 0x00, 0x09, 0x84, 0x06, 0x01, 0xa7, 0xff, 0xde, 0x15, 0x06, 0x10, 0x0c]⟩) 128 := dz_lies (m := 32) (Nat.zero_lt_succ _) rfl
theorem dX11_duel_130 : decode cX11_duel 130 = .ok (.sipush 1312, 3) := dz1 (k := 2) (m := 3) dzc1_cX11_duel_128 di_616 (Nat.zero_lt_succ _) rfl
theorem dX11_duel_133 : decode cX11_duel 133 = .ok (.iload 5, 2) := dz1 (k := 5) (m := 2) dzc1_cX11_duel_128 di_101 (Nat.zero_lt_succ _) rfl
theorem dX11_duel_135 : decode cX11_duel 135 = .ok (.bipush 8, 2) := dz1 (k := 7) (m := 2) dzc1_cX11_duel_128 di_184 (Nat.zero_lt_succ _) rfl
theorem dX11_duel_137 : decode cX11_duel 137 = .ok (.imul, 1) := dz1 (k := 9) (m := 1) dzc1_cX11_duel_128 di_113 (Nat.zero_lt_succ _) rfl
theorem dX11_duel_138 : decode cX11_duel 138 = .ok (.iadd, 1) := dz1 (k := 10) (m := 1) dzc1_cX11_duel_128 di_24 (Nat.zero_lt_succ _) rfl
theorem dX11_duel_139 : decode cX11_duel 139 = .ok (.iconst 5, 1) := dz1 (k := 11) (m := 1) dzc1_cX11_duel_128 di_145 (Nat.zero_lt_succ _) rfl
theorem dX11_duel_140 : decode cX11_duel 140 = .ok (.iadd, 1) := dz1 (k := 12) (m := 1) dzc1_cX11_duel_128 di_24 (Nat.zero_lt_succ _) rfl
theorem dX11_duel_141 : decode cX11_duel 141 = .ok (.iaload, 1) := dz1 (k := 13) (m := 1) dzc1_cX11_duel_128 di_30 (Nat.zero_lt_succ _) rfl
theorem dX11_duel_142 : decode cX11_duel 142 = .ok (.iload 6, 2) := dz1 (k := 14) (m := 2) dzc1_cX11_duel_128 di_115 (Nat.zero_lt_succ _) rfl
theorem dX11_duel_144 : decode cX11_duel 144 = .ok (.invokestatic 139, 3) := dz1 (k := 16) (m := 3) dzc1_cX11_duel_128 di_587 (Nat.zero_lt_succ _) rfl
theorem dX11_duel_147 : decode cX11_duel 147 = .ok (.ifCond .ne 9, 3) := dz1 (k := 19) (m := 3) dzc1_cX11_duel_128 di_243 (Nat.zero_lt_succ _) rfl
theorem dX11_duel_150 : decode cX11_duel 150 = .ok (.iinc 6 1, 3) := dz1 (k := 22) (m := 3) dzc1_cX11_duel_128 di_252 (Nat.zero_lt_succ _) rfl
theorem dX11_duel_153 : decode cX11_duel 153 = .ok (.goto (-34), 3) := dz1 (k := 25) (m := 3) dzc1_cX11_duel_128 di_668 (Nat.zero_lt_succ _) rfl
theorem dX11_duel_156 : decode cX11_duel 156 = .ok (.iload 6, 2) := dz1 (k := 28) (m := 2) dzc1_cX11_duel_128 di_115 (Nat.zero_lt_succ _) rfl
theorem dX11_duel_158 : decode cX11_duel 158 = .ok (.bipush 12, 2) := dz1 (k := 30) (m := 2) dzc1_cX11_duel_128 di_126 (Nat.zero_lt_succ _) rfl
set_option maxRecDepth 100000 in
theorem dzc1_cX11_duel_160 : DzLies cX11_duel (.mk ⟨[0xa4, 0x00, 0x07, 0x04, 0xa7, 0x00, 0x04, 0x03, 0x36, 0x07, 0x15, 0x07, 0x9a, 0x00, 0x80, 0x2a, 0xb4, 0x00, 0x33, 0x15, 0x05, 0x15, 0x06, 0x4f, 0x2a, 0x11, 0x05, 0x20, 0x15, 0x05, 0x10, 0x08]⟩) 160 := dz_lies (m := 32) (Nat.zero_lt_succ _) rfl
theorem dX11_duel_160 : decode cX11_duel 160 = .ok (.if_icmp .le 7, 3) := dz1 (k := 0) (m := 3) dzc1_cX11_duel_160 di_606 (Nat.zero_lt_succ _) rfl
theorem dX11_duel_163 : decode cX11_duel 163 = .ok (.iconst 1, 1) := dz1 (k := 3) (m := 1) dzc1_cX11_duel_160 di_10 (Nat.zero_lt_succ _) rfl
theorem dX11_duel_164 : decode cX11_duel 164 = .ok (.goto 4, 3) := dz1 (k := 4) (m := 3) dzc1_cX11_duel_160 di_49 (Nat.zero_lt_succ _) rfl
theorem dX11_duel_167 : decode cX11_duel 167 = .ok (.iconst 0, 1) := dz1 (k := 7) (m := 1) dzc1_cX11_duel_160 di_8 (Nat.zero_lt_succ _) rfl
theorem dX11_duel_168 : decode cX11_duel 168 = .ok (.istore 7, 2) := dz1 (k := 8) (m := 2) dzc1_cX11_duel_160 di_116 (Nat.zero_lt_succ _) rfl
theorem dX11_duel_170 : decode cX11_duel 170 = .ok (.iload 7, 2) := dz1 (k := 10) (m := 2) dzc1_cX11_duel_160 di_117 (Nat.zero_lt_succ _) rfl
theorem dX11_duel_172 : decode cX11_duel 172 = .ok (.ifCond .ne 128, 3) := dz1 (k := 12) (m := 3) dzc1_cX11_duel_160 di_669 (Nat.zero_lt_succ _) rfl
theorem dX11_duel_175 : decode cX11_duel 175 = .ok (.aload_n 0, 1) := dz1 (k := 15) (m := 1) dzc1_cX11_duel_160 di_0 (Nat.zero_lt_succ _) rfl
theorem dX11_duel_176 : decode cX11_duel 176 = .ok (.getfield 51, 3) := dz1 (k := 16) (m := 3) dzc1_cX11_duel_160 di_155 (Nat.zero_lt_succ _) rfl
theorem dX11_duel_179 : decode cX11_duel 179 = .ok (.iload 5, 2) := dz1 (k := 19) (m := 2) dzc1_cX11_duel_160 di_101 (Nat.zero_lt_succ _) rfl
theorem dX11_duel_181 : decode cX11_duel 181 = .ok (.iload 6, 2) := dz1 (k := 21) (m := 2) dzc1_cX11_duel_160 di_115 (Nat.zero_lt_succ _) rfl
theorem dX11_duel_183 : decode cX11_duel 183 = .ok (.iastore, 1) := dz1 (k := 23) (m := 1) dzc1_cX11_duel_160 di_22 (Nat.zero_lt_succ _) rfl
theorem dX11_duel_184 : decode cX11_duel 184 = .ok (.aload_n 0, 1) := dz1 (k := 24) (m := 1) dzc1_cX11_duel_160 di_0 (Nat.zero_lt_succ _) rfl
theorem dX11_duel_185 : decode cX11_duel 185 = .ok (.sipush 1312, 3) := dz1 (k := 25) (m := 3) dzc1_cX11_duel_160 di_616 (Nat.zero_lt_succ _) rfl
theorem dX11_duel_188 : decode cX11_duel 188 = .ok (.iload 5, 2) := dz1 (k := 28) (m := 2) dzc1_cX11_duel_160 di_101 (Nat.zero_lt_succ _) rfl
theorem dX11_duel_190 : decode cX11_duel 190 = .ok (.bipush 8, 2) := dz1 (k := 30) (m := 2) dzc1_cX11_duel_160 di_184 (Nat.zero_lt_succ _) rfl
set_option maxRecDepth 100000 in
theorem dzc1_cX11_duel_192 : DzLies cX11_duel (.mk ⟨[0x68, 0x60, 0x11, 0x05, 0x20, 0x15, 0x05, 0x04, 0x60, 0x10, 0x08, 0x68, 0x60, 0x10, 0x08, 0xb6, 0x00, 0xa0, 0x2a, 0x11, 0x05, 0x20, 0x15, 0x05, 0x04, 0x60, 0x10, 0x08, 0x68, 0x60, 0x15, 0x06]⟩) 192 := dz_lies (m := 32) (Nat.zero_lt_succ _) rfl
theorem dX11_duel_192 : decode cX11_duel 192 = .ok (.imul, 1) := dz1 (k := 0) (m := 1) dzc1_cX11_duel_192 di_113 (Nat.zero_lt_succ _) rfl
theorem dX11_duel_193 : decode cX11_duel 193 = .ok (.iadd, 1) := dz1 (k := 1) (m := 1) dzc1_cX11_duel_192 di_24 (Nat.zero_lt_succ _) rfl
theorem dX11_duel_194 : decode cX11_duel 194 = .ok (.sipush 1312, 3) := dz1 (k := 2) (m := 3) dzc1_cX11_duel_192 di_616 (Nat.zero_lt_succ _) rfl
theorem dX11_duel_197 : decode cX11_duel 197 = .ok (.iload 5, 2) := dz1 (k := 5) (m := 2) dzc1_cX11_duel_192 di_101 (Nat.zero_lt_succ _) rfl
theorem dX11_duel_199 : decode cX11_duel 199 = .ok (.iconst 1, 1) := dz1 (k := 7) (m := 1) dzc1_cX11_duel_192 di_10 (Nat.zero_lt_succ _) rfl
theorem dX11_duel_200 : decode cX11_duel 200 = .ok (.iadd, 1) := dz1 (k := 8) (m := 1) dzc1_cX11_duel_192 di_24 (Nat.zero_lt_succ _) rfl
theorem dX11_duel_201 : decode cX11_duel 201 = .ok (.bipush 8, 2) := dz1 (k := 9) (m := 2) dzc1_cX11_duel_192 di_184 (Nat.zero_lt_succ _) rfl
theorem dX11_duel_203 : decode cX11_duel 203 = .ok (.imul, 1) := dz1 (k := 11) (m := 1) dzc1_cX11_duel_192 di_113 (Nat.zero_lt_succ _) rfl
theorem dX11_duel_204 : decode cX11_duel 204 = .ok (.iadd, 1) := dz1 (k := 12) (m := 1) dzc1_cX11_duel_192 di_24 (Nat.zero_lt_succ _) rfl
theorem dX11_duel_205 : decode cX11_duel 205 = .ok (.bipush 8, 2) := dz1 (k := 13) (m := 2) dzc1_cX11_duel_192 di_184 (Nat.zero_lt_succ _) rfl
theorem dX11_duel_207 : decode cX11_duel 207 = .ok (.invokevirtual 160, 3) := dz1 (k := 15) (m := 3) dzc1_cX11_duel_192 di_610 (Nat.zero_lt_succ _) rfl
theorem dX11_duel_210 : decode cX11_duel 210 = .ok (.aload_n 0, 1) := dz1 (k := 18) (m := 1) dzc1_cX11_duel_192 di_0 (Nat.zero_lt_succ _) rfl
theorem dX11_duel_211 : decode cX11_duel 211 = .ok (.sipush 1312, 3) := dz1 (k := 19) (m := 3) dzc1_cX11_duel_192 di_616 (Nat.zero_lt_succ _) rfl
theorem dX11_duel_214 : decode cX11_duel 214 = .ok (.iload 5, 2) := dz1 (k := 22) (m := 2) dzc1_cX11_duel_192 di_101 (Nat.zero_lt_succ _) rfl
theorem dX11_duel_216 : decode cX11_duel 216 = .ok (.iconst 1, 1) := dz1 (k := 24) (m := 1) dzc1_cX11_duel_192 di_10 (Nat.zero_lt_succ _) rfl
theorem dX11_duel_217 : decode cX11_duel 217 = .ok (.iadd, 1) := dz1 (k := 25) (m := 1) dzc1_cX11_duel_192 di_24 (Nat.zero_lt_succ _) rfl
theorem dX11_duel_218 : decode cX11_duel 218 = .ok (.bipush 8, 2) := dz1 (k := 26) (m := 2) dzc1_cX11_duel_192 di_184 (Nat.zero_lt_succ _) rfl
theorem dX11_duel_220 : decode cX11_duel 220 = .ok (.imul, 1) := dz1 (k := 28) (m := 1) dzc1_cX11_duel_192 di_113 (Nat.zero_lt_succ _) rfl
theorem dX11_duel_221 : decode cX11_duel 221 = .ok (.iadd, 1) := dz1 (k := 29) (m := 1) dzc1_cX11_duel_192 di_24 (Nat.zero_lt_succ _) rfl
theorem dX11_duel_222 : decode cX11_duel 222 = .ok (.iload 6, 2) := dz1 (k := 30) (m := 2) dzc1_cX11_duel_192 di_115 (Nat.zero_lt_succ _) rfl
set_option maxRecDepth 100000 in
theorem dzc1_cX11_duel_224 : DzLies cX11_duel (.mk ⟨[0xb6, 0x00, 0xa7, 0x57, 0x15, 0x05, 0x04, 0x60, 0x15, 0x04, 0xa0, 0x00, 0x1d, 0x2a, 0x15, 0x05, 0x2a, 0x11, 0x05, 0x20, 0x15, 0x05, 0x04, 0x60, 0x10, 0x08, 0x68, 0x60, 0x1b, 0x1c, 0xb6, 0x00, 0xc6]⟩) 224 := dz_lies (m := 33) (Nat.zero_lt_succ _) rfl
theorem dX11_duel_224 : decode cX11_duel 224 = .ok (.invokevirtual 167, 3) := dz1 (k := 0) (m := 3) dzc1_cX11_duel_224 di_295 (Nat.zero_lt_succ _) rfl
theorem dX11_duel_227 : decode cX11_duel 227 = .ok (.pop, 1) := dz1 (k := 3) (m := 1) dzc1_cX11_duel_224 di_331 (Nat.zero_lt_succ _) rfl
theorem dX11_duel_228 : decode cX11_duel 228 = .ok (.iload 5, 2) := dz1 (k := 4) (m := 2) dzc1_cX11_duel_224 di_101 (Nat.zero_lt_succ _) rfl
theorem dX11_duel_230 : decode cX11_duel 230 = .ok (.iconst 1, 1) := dz1 (k := 6) (m := 1) dzc1_cX11_duel_224 di_10 (Nat.zero_lt_succ _) rfl
theorem dX11_duel_231 : decode cX11_duel 231 = .ok (.iadd, 1) := dz1 (k := 7) (m := 1) dzc1_cX11_duel_224 di_24 (Nat.zero_lt_succ _) rfl
theorem dX11_duel_232 : decode cX11_duel 232 = .ok (.iload 4, 2) := dz1 (k := 8) (m := 2) dzc1_cX11_duel_224 di_52 (Nat.zero_lt_succ _) rfl
theorem dX11_duel_234 : decode cX11_duel 234 = .ok (.if_icmp .ne 29, 3) := dz1 (k := 10) (m := 3) dzc1_cX11_duel_224 di_290 (Nat.zero_lt_succ _) rfl
theorem dX11_duel_237 : decode cX11_duel 237 = .ok (.aload_n 0, 1) := dz1 (k := 13) (m := 1) dzc1_cX11_duel_224 di_0 (Nat.zero_lt_succ _) rfl
theorem dX11_duel_238 : decode cX11_duel 238 = .ok (.iload 5, 2) := dz1 (k := 14) (m := 2) dzc1_cX11_duel_224 di_101 (Nat.zero_lt_succ _) rfl
theorem dX11_duel_240 : decode cX11_duel 240 = .ok (.aload_n 0, 1) := dz1 (k := 16) (m := 1) dzc1_cX11_duel_224 di_0 (Nat.zero_lt_succ _) rfl
theorem dX11_duel_241 : decode cX11_duel 241 = .ok (.sipush 1312, 3) := dz1 (k := 17) (m := 3) dzc1_cX11_duel_224 di_616 (Nat.zero_lt_succ _) rfl
theorem dX11_duel_244 : decode cX11_duel 244 = .ok (.iload 5, 2) := dz1 (k := 20) (m := 2) dzc1_cX11_duel_224 di_101 (Nat.zero_lt_succ _) rfl
theorem dX11_duel_246 : decode cX11_duel 246 = .ok (.iconst 1, 1) := dz1 (k := 22) (m := 1) dzc1_cX11_duel_224 di_10 (Nat.zero_lt_succ _) rfl
theorem dX11_duel_247 : decode cX11_duel 247 = .ok (.iadd, 1) := dz1 (k := 23) (m := 1) dzc1_cX11_duel_224 di_24 (Nat.zero_lt_succ _) rfl
theorem dX11_duel_248 : decode cX11_duel 248 = .ok (.bipush 8, 2) := dz1 (k := 24) (m := 2) dzc1_cX11_duel_224 di_184 (Nat.zero_lt_succ _) rfl
theorem dX11_duel_250 : decode cX11_duel 250 = .ok (.imul, 1) := dz1 (k := 26) (m := 1) dzc1_cX11_duel_224 di_113 (Nat.zero_lt_succ _) rfl
theorem dX11_duel_251 : decode cX11_duel 251 = .ok (.iadd, 1) := dz1 (k := 27) (m := 1) dzc1_cX11_duel_224 di_24 (Nat.zero_lt_succ _) rfl
theorem dX11_duel_252 : decode cX11_duel 252 = .ok (.iload_n 1, 1) := dz1 (k := 28) (m := 1) dzc1_cX11_duel_224 di_11 (Nat.zero_lt_succ _) rfl
theorem dX11_duel_253 : decode cX11_duel 253 = .ok (.iload_n 2, 1) := dz1 (k := 29) (m := 1) dzc1_cX11_duel_224 di_28 (Nat.zero_lt_succ _) rfl
theorem dX11_duel_254 : decode cX11_duel 254 = .ok (.invokevirtual 198, 3) := dz1 (k := 30) (m := 3) dzc1_cX11_duel_224 di_663 (Nat.zero_lt_succ _) rfl
set_option maxRecDepth 100000 in
theorem dzc1_cX11_duel_256 : DzLies cX11_duel (.mk ⟨[0xc6, 0xb6, 0x00, 0xc9, 0xa7, 0x00, 0x3f, 0x84, 0x05, 0x01, 0x2a, 0xb4, 0x00, 0x33, 0x15, 0x05, 0x03, 0x4f, 0x2a, 0xb4, 0x00, 0x39, 0x15, 0x05, 0x15, 0x05, 0x05, 0x70, 0x9a, 0x00, 0x09, 0x11, 0xfc, 0x19]⟩) 256 := dz_lies (m := 34) (Nat.zero_lt_succ _) rfl
theorem dX11_duel_257 : decode cX11_duel 257 = .ok (.invokevirtual 201, 3) := dz1 (k := 1) (m := 3) dzc1_cX11_duel_256 di_315 (Nat.zero_lt_succ _) rfl
theorem dX11_duel_260 : decode cX11_duel 260 = .ok (.goto 63, 3) := dz1 (k := 4) (m := 3) dzc1_cX11_duel_256 di_670 (Nat.zero_lt_succ _) rfl
theorem dX11_duel_263 : decode cX11_duel 263 = .ok (.iinc 5 1, 3) := dz1 (k := 7) (m := 3) dzc1_cX11_duel_256 di_131 (Nat.zero_lt_succ _) rfl
theorem dX11_duel_266 : decode cX11_duel 266 = .ok (.aload_n 0, 1) := dz1 (k := 10) (m := 1) dzc1_cX11_duel_256 di_0 (Nat.zero_lt_succ _) rfl
theorem dX11_duel_267 : decode cX11_duel 267 = .ok (.getfield 51, 3) := dz1 (k := 11) (m := 3) dzc1_cX11_duel_256 di_155 (Nat.zero_lt_succ _) rfl
theorem dX11_duel_270 : decode cX11_duel 270 = .ok (.iload 5, 2) := dz1 (k := 14) (m := 2) dzc1_cX11_duel_256 di_101 (Nat.zero_lt_succ _) rfl
theorem dX11_duel_272 : decode cX11_duel 272 = .ok (.iconst 0, 1) := dz1 (k := 16) (m := 1) dzc1_cX11_duel_256 di_8 (Nat.zero_lt_succ _) rfl
theorem dX11_duel_273 : decode cX11_duel 273 = .ok (.iastore, 1) := dz1 (k := 17) (m := 1) dzc1_cX11_duel_256 di_22 (Nat.zero_lt_succ _) rfl
theorem dX11_duel_274 : decode cX11_duel 274 = .ok (.aload_n 0, 1) := dz1 (k := 18) (m := 1) dzc1_cX11_duel_256 di_0 (Nat.zero_lt_succ _) rfl
theorem dX11_duel_275 : decode cX11_duel 275 = .ok (.getfield 57, 3) := dz1 (k := 19) (m := 3) dzc1_cX11_duel_256 di_662 (Nat.zero_lt_succ _) rfl
theorem dX11_duel_278 : decode cX11_duel 278 = .ok (.iload 5, 2) := dz1 (k := 22) (m := 2) dzc1_cX11_duel_256 di_101 (Nat.zero_lt_succ _) rfl
theorem dX11_duel_280 : decode cX11_duel 280 = .ok (.iload 5, 2) := dz1 (k := 24) (m := 2) dzc1_cX11_duel_256 di_101 (Nat.zero_lt_succ _) rfl
theorem dX11_duel_282 : decode cX11_duel 282 = .ok (.iconst 2, 1) := dz1 (k := 26) (m := 1) dzc1_cX11_duel_256 di_6 (Nat.zero_lt_succ _) rfl
theorem dX11_duel_283 : decode cX11_duel 283 = .ok (.irem, 1) := dz1 (k := 27) (m := 1) dzc1_cX11_duel_256 di_5 (Nat.zero_lt_succ _) rfl
theorem dX11_duel_284 : decode cX11_duel 284 = .ok (.ifCond .ne 9, 3) := dz1 (k := 28) (m := 3) dzc1_cX11_duel_256 di_243 (Nat.zero_lt_succ _) rfl
theorem dX11_duel_287 : decode cX11_duel 287 = .ok (.sipush (-999), 3) := dz1 (k := 31) (m := 3) dzc1_cX11_duel_256 di_664 (Nat.zero_lt_succ _) rfl
set_option maxRecDepth 100000 in
theorem dzc1_cX11_duel_288 : DzLies cX11_duel (.mk ⟨[0xfc, 0x19, 0xa7, 0x00, 0x06, 0x11, 0x03, 0xe7, 0x4f, 0xa7, 0x00, 0x1a, 0x15, 0x05, 0x9e, 0x00, 0x12, 0x2a, 0x15, 0x05, 0x04, 0x64, 0x2a, 0xb4, 0x00, 0x39, 0x15, 0x05, 0x2e, 0xb6, 0x00, 0xc9]⟩) 288 := dz_lies (m := 32) (Nat.zero_lt_succ _) rfl
theorem dX11_duel_290 : decode cX11_duel 290 = .ok (.goto 6, 3) := dz1 (k := 2) (m := 3) dzc1_cX11_duel_288 di_9 (Nat.zero_lt_succ _) rfl
theorem dX11_duel_293 : decode cX11_duel 293 = .ok (.sipush 999, 3) := dz1 (k := 5) (m := 3) dzc1_cX11_duel_288 di_671 (Nat.zero_lt_succ _) rfl
theorem dX11_duel_296 : decode cX11_duel 296 = .ok (.iastore, 1) := dz1 (k := 8) (m := 1) dzc1_cX11_duel_288 di_22 (Nat.zero_lt_succ _) rfl
theorem dX11_duel_297 : decode cX11_duel 297 = .ok (.goto 26, 3) := dz1 (k := 9) (m := 3) dzc1_cX11_duel_288 di_672 (Nat.zero_lt_succ _) rfl
theorem dX11_duel_300 : decode cX11_duel 300 = .ok (.iload 5, 2) := dz1 (k := 12) (m := 2) dzc1_cX11_duel_288 di_101 (Nat.zero_lt_succ _) rfl
theorem dX11_duel_302 : decode cX11_duel 302 = .ok (.ifCond .le 18, 3) := dz1 (k := 14) (m := 3) dzc1_cX11_duel_288 di_673 (Nat.zero_lt_succ _) rfl
theorem dX11_duel_305 : decode cX11_duel 305 = .ok (.aload_n 0, 1) := dz1 (k := 17) (m := 1) dzc1_cX11_duel_288 di_0 (Nat.zero_lt_succ _) rfl
theorem dX11_duel_306 : decode cX11_duel 306 = .ok (.iload 5, 2) := dz1 (k := 18) (m := 2) dzc1_cX11_duel_288 di_101 (Nat.zero_lt_succ _) rfl
theorem dX11_duel_308 : decode cX11_duel 308 = .ok (.iconst 1, 1) := dz1 (k := 20) (m := 1) dzc1_cX11_duel_288 di_10 (Nat.zero_lt_succ _) rfl
theorem dX11_duel_309 : decode cX11_duel 309 = .ok (.isub, 1) := dz1 (k := 21) (m := 1) dzc1_cX11_duel_288 di_14 (Nat.zero_lt_succ _) rfl
theorem dX11_duel_310 : decode cX11_duel 310 = .ok (.aload_n 0, 1) := dz1 (k := 22) (m := 1) dzc1_cX11_duel_288 di_0 (Nat.zero_lt_succ _) rfl
theorem dX11_duel_311 : decode cX11_duel 311 = .ok (.getfield 57, 3) := dz1 (k := 23) (m := 3) dzc1_cX11_duel_288 di_662 (Nat.zero_lt_succ _) rfl
theorem dX11_duel_314 : decode cX11_duel 314 = .ok (.iload 5, 2) := dz1 (k := 26) (m := 2) dzc1_cX11_duel_288 di_101 (Nat.zero_lt_succ _) rfl
theorem dX11_duel_316 : decode cX11_duel 316 = .ok (.iaload, 1) := dz1 (k := 28) (m := 1) dzc1_cX11_duel_288 di_30 (Nat.zero_lt_succ _) rfl
theorem dX11_duel_317 : decode cX11_duel 317 = .ok (.invokevirtual 201, 3) := dz1 (k := 29) (m := 3) dzc1_cX11_duel_288 di_315 (Nat.zero_lt_succ _) rfl
set_option maxRecDepth 100000 in
theorem dzc1_cX11_duel_320 : DzLies cX11_duel (.mk ⟨[0x84, 0x05, 0xff, 0xa7, 0xff, 0x1f, 0x2a, 0x2a, 0xb4, 0x00, 0x39, 0x03, 0x2e, 0xb6, 0x00, 0x57, 0xac]⟩) 320 := dz_lies (m := 17) (Nat.zero_lt_succ _) rfl
theorem dX11_duel_320 : decode cX11_duel 320 = .ok (.iinc 5 (-1), 3) := dz1 (k := 0) (m := 3) dzc1_cX11_duel_320 di_674 (Nat.zero_lt_succ _) rfl
theorem dX11_duel_323 : decode cX11_duel 323 = .ok (.goto (-225), 3) := dz1 (k := 3) (m := 3) dzc1_cX11_duel_320 di_675 (Nat.zero_lt_succ _) rfl
theorem dX11_duel_326 : decode cX11_duel 326 = .ok (.aload_n 0, 1) := dz1 (k := 6) (m := 1) dzc1_cX11_duel_320 di_0 (Nat.zero_lt_succ _) rfl
theorem dX11_duel_327 : decode cX11_duel 327 = .ok (.aload_n 0, 1) := dz1 (k := 7) (m := 1) dzc1_cX11_duel_320 di_0 (Nat.zero_lt_succ _) rfl
theorem dX11_duel_328 : decode cX11_duel 328 = .ok (.getfield 57, 3) := dz1 (k := 8) (m := 3) dzc1_cX11_duel_320 di_662 (Nat.zero_lt_succ _) rfl
theorem dX11_duel_331 : decode cX11_duel 331 = .ok (.iconst 0, 1) := dz1 (k := 11) (m := 1) dzc1_cX11_duel_320 di_8 (Nat.zero_lt_succ _) rfl
theorem dX11_duel_332 : decode cX11_duel 332 = .ok (.iaload, 1) := dz1 (k := 12) (m := 1) dzc1_cX11_duel_320 di_30 (Nat.zero_lt_succ _) rfl
theorem dX11_duel_333 : decode cX11_duel 333 = .ok (.invokevirtual 87, 3) := dz1 (k := 13) (m := 3) dzc1_cX11_duel_320 di_228 (Nat.zero_lt_succ _) rfl
theorem dX11_duel_336 : decode cX11_duel 336 = .ok (.ireturn, 1) := dz1 (k := 16) (m := 1) dzc1_cX11_duel_320 di_13 (Nat.zero_lt_succ _) rfl
set_option maxRecDepth 100000 in
theorem dzc1_cX11_better_0 : DzLies cX11_better (.mk ⟨[0x2a, 0xb4, 0x00, 0x39, 0x1b, 0x1b, 0x05, 0x70, 0x9a, 0x00, 0x10, 0x2a, 0xb4, 0x00, 0x39, 0x1b, 0x2e, 0x1c, 0xb8, 0x00, 0x88, 0xa7, 0x00, 0x0d, 0x2a, 0xb4, 0x00, 0x39, 0x1b, 0x2e, 0x1c, 0xb8, 0x00, 0x65]⟩) 0 := dz_lies (m := 34) (Nat.zero_lt_succ _) rfl
theorem dX11_better_0 : decode cX11_better 0 = .ok (.aload_n 0, 1) := dz1 (k := 0) (m := 1) dzc1_cX11_better_0 di_0 (Nat.zero_lt_succ _) rfl
theorem dX11_better_1 : decode cX11_better 1 = .ok (.getfield 57, 3) := dz1 (k := 1) (m := 3) dzc1_cX11_better_0 di_662 (Nat.zero_lt_succ _) rfl
theorem dX11_better_4 : decode cX11_better 4 = .ok (.iload_n 1, 1) := dz1 (k := 4) (m := 1) dzc1_cX11_better_0 di_11 (Nat.zero_lt_succ _) rfl
theorem dX11_better_5 : decode cX11_better 5 = .ok (.iload_n 1, 1) := dz1 (k := 5) (m := 1) dzc1_cX11_better_0 di_11 (Nat.zero_lt_succ _) rfl
theorem dX11_better_6 : decode cX11_better 6 = .ok (.iconst 2, 1) := dz1 (k := 6) (m := 1) dzc1_cX11_better_0 di_6 (Nat.zero_lt_succ _) rfl
theorem dX11_better_7 : decode cX11_better 7 = .ok (.irem, 1) := dz1 (k := 7) (m := 1) dzc1_cX11_better_0 di_5 (Nat.zero_lt_succ _) rfl
theorem dX11_better_8 : decode cX11_better 8 = .ok (.ifCond .ne 16, 3) := dz1 (k := 8) (m := 3) dzc1_cX11_better_0 di_61 (Nat.zero_lt_succ _) rfl
theorem dX11_better_11 : decode cX11_better 11 = .ok (.aload_n 0, 1) := dz1 (k := 11) (m := 1) dzc1_cX11_better_0 di_0 (Nat.zero_lt_succ _) rfl
theorem dX11_better_12 : decode cX11_better 12 = .ok (.getfield 57, 3) := dz1 (k := 12) (m := 3) dzc1_cX11_better_0 di_662 (Nat.zero_lt_succ _) rfl
theorem dX11_better_15 : decode cX11_better 15 = .ok (.iload_n 1, 1) := dz1 (k := 15) (m := 1) dzc1_cX11_better_0 di_11 (Nat.zero_lt_succ _) rfl
theorem dX11_better_16 : decode cX11_better 16 = .ok (.iaload, 1) := dz1 (k := 16) (m := 1) dzc1_cX11_better_0 di_30 (Nat.zero_lt_succ _) rfl
theorem dX11_better_17 : decode cX11_better 17 = .ok (.iload_n 2, 1) := dz1 (k := 17) (m := 1) dzc1_cX11_better_0 di_28 (Nat.zero_lt_succ _) rfl
theorem dX11_better_18 : decode cX11_better 18 = .ok (.invokestatic 136, 3) := dz1 (k := 18) (m := 3) dzc1_cX11_better_0 di_583 (Nat.zero_lt_succ _) rfl
theorem dX11_better_21 : decode cX11_better 21 = .ok (.goto 13, 3) := dz1 (k := 21) (m := 3) dzc1_cX11_better_0 di_676 (Nat.zero_lt_succ _) rfl
theorem dX11_better_24 : decode cX11_better 24 = .ok (.aload_n 0, 1) := dz1 (k := 24) (m := 1) dzc1_cX11_better_0 di_0 (Nat.zero_lt_succ _) rfl
theorem dX11_better_25 : decode cX11_better 25 = .ok (.getfield 57, 3) := dz1 (k := 25) (m := 3) dzc1_cX11_better_0 di_662 (Nat.zero_lt_succ _) rfl
theorem dX11_better_28 : decode cX11_better 28 = .ok (.iload_n 1, 1) := dz1 (k := 28) (m := 1) dzc1_cX11_better_0 di_11 (Nat.zero_lt_succ _) rfl
theorem dX11_better_29 : decode cX11_better 29 = .ok (.iaload, 1) := dz1 (k := 29) (m := 1) dzc1_cX11_better_0 di_30 (Nat.zero_lt_succ _) rfl
theorem dX11_better_30 : decode cX11_better 30 = .ok (.iload_n 2, 1) := dz1 (k := 30) (m := 1) dzc1_cX11_better_0 di_28 (Nat.zero_lt_succ _) rfl
theorem dX11_better_31 : decode cX11_better 31 = .ok (.invokestatic 101, 3) := dz1 (k := 31) (m := 3) dzc1_cX11_better_0 di_557 (Nat.zero_lt_succ _) rfl
set_option maxRecDepth 100000 in
theorem dzc1_cX11_better_32 : DzLies cX11_better (.mk ⟨[0x00, 0x65, 0x4f, 0xb1]⟩) 32 := dz_lies (m := 4) (Nat.zero_lt_succ _) rfl
theorem dX11_better_34 : decode cX11_better 34 = .ok (.iastore, 1) := dz1 (k := 2) (m := 1) dzc1_cX11_better_32 di_22 (Nat.zero_lt_succ _) rfl
theorem dX11_better_35 : decode cX11_better 35 = .ok (.return_, 1) := dz1 (k := 3) (m := 1) dzc1_cX11_better_32 di_2 (Nat.zero_lt_succ _) rfl
set_option maxRecDepth 100000 in
theorem dzc1_cX11_fraction_0 : DzLies cX11_fraction (.mk ⟨[0x1f, 0x37, 0x05, 0x21, 0x37, 0x07, 0x16, 0x07, 0x09, 0x94, 0x99, 0x00, 0x15, 0x16, 0x05, 0x16, 0x07, 0x71, 0x37, 0x09, 0x16, 0x07, 0x37, 0x05, 0x16, 0x09, 0x37, 0x07, 0xa7, 0xff, 0xea, 0x2a]⟩) 0 := dz_lies (m := 32) (Nat.zero_lt_succ _) rfl
theorem dX11_fraction_0 : decode cX11_fraction 0 = .ok (.lload_n 1, 1) := dz1 (k := 0) (m := 1) dzc1_cX11_fraction_0 di_399 (Nat.zero_lt_succ _) rfl
theorem dX11_fraction_1 : decode cX11_fraction 1 = .ok (.lstore 5, 2) := dz1 (k := 1) (m := 2) dzc1_cX11_fraction_0 di_484 (Nat.zero_lt_succ _) rfl
theorem dX11_fraction_3 : decode cX11_fraction 3 = .ok (.lload_n 3, 1) := dz1 (k := 3) (m := 1) dzc1_cX11_fraction_0 di_482 (Nat.zero_lt_succ _) rfl
theorem dX11_fraction_4 : decode cX11_fraction 4 = .ok (.lstore 7, 2) := dz1 (k := 4) (m := 2) dzc1_cX11_fraction_0 di_677 (Nat.zero_lt_succ _) rfl
theorem dX11_fraction_6 : decode cX11_fraction 6 = .ok (.lload 7, 2) := dz1 (k := 6) (m := 2) dzc1_cX11_fraction_0 di_678 (Nat.zero_lt_succ _) rfl
theorem dX11_fraction_8 : decode cX11_fraction 8 = .ok (.lconst 0, 1) := dz1 (k := 8) (m := 1) dzc1_cX11_fraction_0 di_246 (Nat.zero_lt_succ _) rfl
theorem dX11_fraction_9 : decode cX11_fraction 9 = .ok (.lcmp, 1) := dz1 (k := 9) (m := 1) dzc1_cX11_fraction_0 di_376 (Nat.zero_lt_succ _) rfl
theorem dX11_fraction_10 : decode cX11_fraction 10 = .ok (.ifCond .eq 21, 3) := dz1 (k := 10) (m := 3) dzc1_cX11_fraction_0 di_318 (Nat.zero_lt_succ _) rfl
theorem dX11_fraction_13 : decode cX11_fraction 13 = .ok (.lload 5, 2) := dz1 (k := 13) (m := 2) dzc1_cX11_fraction_0 di_485 (Nat.zero_lt_succ _) rfl
theorem dX11_fraction_15 : decode cX11_fraction 15 = .ok (.lload 7, 2) := dz1 (k := 15) (m := 2) dzc1_cX11_fraction_0 di_678 (Nat.zero_lt_succ _) rfl
theorem dX11_fraction_17 : decode cX11_fraction 17 = .ok (.lrem, 1) := dz1 (k := 17) (m := 1) dzc1_cX11_fraction_0 di_381 (Nat.zero_lt_succ _) rfl
theorem dX11_fraction_18 : decode cX11_fraction 18 = .ok (.lstore 9, 2) := dz1 (k := 18) (m := 2) dzc1_cX11_fraction_0 di_489 (Nat.zero_lt_succ _) rfl
theorem dX11_fraction_20 : decode cX11_fraction 20 = .ok (.lload 7, 2) := dz1 (k := 20) (m := 2) dzc1_cX11_fraction_0 di_678 (Nat.zero_lt_succ _) rfl
theorem dX11_fraction_22 : decode cX11_fraction 22 = .ok (.lstore 5, 2) := dz1 (k := 22) (m := 2) dzc1_cX11_fraction_0 di_484 (Nat.zero_lt_succ _) rfl
theorem dX11_fraction_24 : decode cX11_fraction 24 = .ok (.lload 9, 2) := dz1 (k := 24) (m := 2) dzc1_cX11_fraction_0 di_490 (Nat.zero_lt_succ _) rfl
theorem dX11_fraction_26 : decode cX11_fraction 26 = .ok (.lstore 7, 2) := dz1 (k := 26) (m := 2) dzc1_cX11_fraction_0 di_677 (Nat.zero_lt_succ _) rfl
theorem dX11_fraction_28 : decode cX11_fraction 28 = .ok (.goto (-22), 3) := dz1 (k := 28) (m := 3) dzc1_cX11_fraction_0 di_401 (Nat.zero_lt_succ _) rfl
theorem dX11_fraction_31 : decode cX11_fraction 31 = .ok (.aload_n 0, 1) := dz1 (k := 31) (m := 1) dzc1_cX11_fraction_0 di_0 (Nat.zero_lt_succ _) rfl
set_option maxRecDepth 100000 in
theorem dzc1_cX11_fraction_32 : DzLies cX11_fraction (.mk ⟨[0x1f, 0x16, 0x05, 0x6d, 0xb5, 0x00, 0xcc, 0x2a, 0x21, 0x16, 0x05, 0x6d, 0xb5, 0x00, 0x2c, 0x04, 0xac]⟩) 32 := dz_lies (m := 17) (Nat.zero_lt_succ _) rfl
theorem dX11_fraction_32 : decode cX11_fraction 32 = .ok (.lload_n 1, 1) := dz1 (k := 0) (m := 1) dzc1_cX11_fraction_32 di_399 (Nat.zero_lt_succ _) rfl
theorem dX11_fraction_33 : decode cX11_fraction 33 = .ok (.lload 5, 2) := dz1 (k := 1) (m := 2) dzc1_cX11_fraction_32 di_485 (Nat.zero_lt_succ _) rfl
theorem dX11_fraction_35 : decode cX11_fraction 35 = .ok (.ldiv, 1) := dz1 (k := 3) (m := 1) dzc1_cX11_fraction_32 di_254 (Nat.zero_lt_succ _) rfl
theorem dX11_fraction_36 : decode cX11_fraction 36 = .ok (.putfield 204, 3) := dz1 (k := 4) (m := 3) dzc1_cX11_fraction_32 di_679 (Nat.zero_lt_succ _) rfl
theorem dX11_fraction_39 : decode cX11_fraction 39 = .ok (.aload_n 0, 1) := dz1 (k := 7) (m := 1) dzc1_cX11_fraction_32 di_0 (Nat.zero_lt_succ _) rfl
theorem dX11_fraction_40 : decode cX11_fraction 40 = .ok (.lload_n 3, 1) := dz1 (k := 8) (m := 1) dzc1_cX11_fraction_32 di_482 (Nat.zero_lt_succ _) rfl
theorem dX11_fraction_41 : decode cX11_fraction 41 = .ok (.lload 5, 2) := dz1 (k := 9) (m := 2) dzc1_cX11_fraction_32 di_485 (Nat.zero_lt_succ _) rfl
theorem dX11_fraction_43 : decode cX11_fraction 43 = .ok (.ldiv, 1) := dz1 (k := 11) (m := 1) dzc1_cX11_fraction_32 di_254 (Nat.zero_lt_succ _) rfl
theorem dX11_fraction_44 : decode cX11_fraction 44 = .ok (.putfield 44, 3) := dz1 (k := 12) (m := 3) dzc1_cX11_fraction_32 di_509 (Nat.zero_lt_succ _) rfl
theorem dX11_fraction_47 : decode cX11_fraction 47 = .ok (.iconst 1, 1) := dz1 (k := 15) (m := 1) dzc1_cX11_fraction_32 di_10 (Nat.zero_lt_succ _) rfl
theorem dX11_fraction_48 : decode cX11_fraction 48 = .ok (.ireturn, 1) := dz1 (k := 16) (m := 1) dzc1_cX11_fraction_32 di_13 (Nat.zero_lt_succ _) rfl
set_option maxRecDepth 100000 in
theorem dzc1_cX11_lot_0 : DzLies cX11_lot (.mk ⟨[0x1c, 0x2a, 0xb4, 0x00, 0x26, 0x08, 0x2e, 0xb8, 0x00, 0x85, 0xb8, 0x00, 0x65, 0x36, 0x04, 0x15, 0x04, 0x9e, 0x00, 0x07]⟩) 0 := dz_lies (m := 20) (Nat.zero_lt_succ _) rfl
theorem dX11_lot_0 : decode cX11_lot 0 = .ok (.iload_n 2, 1) := dz1 (k := 0) (m := 1) dzc1_cX11_lot_0 di_28 (Nat.zero_lt_succ _) rfl
theorem dX11_lot_1 : decode cX11_lot 1 = .ok (.aload_n 0, 1) := dz1 (k := 1) (m := 1) dzc1_cX11_lot_0 di_0 (Nat.zero_lt_succ _) rfl
theorem dX11_lot_2 : decode cX11_lot 2 = .ok (.getfield 38, 3) := dz1 (k := 2) (m := 3) dzc1_cX11_lot_0 di_574 (Nat.zero_lt_succ _) rfl
theorem dX11_lot_5 : decode cX11_lot 5 = .ok (.iconst 5, 1) := dz1 (k := 5) (m := 1) dzc1_cX11_lot_0 di_145 (Nat.zero_lt_succ _) rfl
theorem dX11_lot_6 : decode cX11_lot 6 = .ok (.iaload, 1) := dz1 (k := 6) (m := 1) dzc1_cX11_lot_0 di_30 (Nat.zero_lt_succ _) rfl
theorem dX11_lot_7 : decode cX11_lot 7 = .ok (.invokestatic 133, 3) := dz1 (k := 7) (m := 3) dzc1_cX11_lot_0 di_582 (Nat.zero_lt_succ _) rfl
theorem dX11_lot_10 : decode cX11_lot 10 = .ok (.invokestatic 101, 3) := dz1 (k := 10) (m := 3) dzc1_cX11_lot_0 di_557 (Nat.zero_lt_succ _) rfl
theorem dX11_lot_13 : decode cX11_lot 13 = .ok (.istore 4, 2) := dz1 (k := 13) (m := 2) dzc1_cX11_lot_0 di_51 (Nat.zero_lt_succ _) rfl
theorem dX11_lot_15 : decode cX11_lot 15 = .ok (.iload 4, 2) := dz1 (k := 15) (m := 2) dzc1_cX11_lot_0 di_52 (Nat.zero_lt_succ _) rfl
theorem dX11_lot_17 : decode cX11_lot 17 = .ok (.ifCond .le 7, 3) := dz1 (k := 17) (m := 3) dzc1_cX11_lot_0 di_680 (Nat.zero_lt_succ _) rfl
