set_option maxRecDepth 100000 in
theorem dzb0_cX10_init_0 : DzLies cX10_init (.mk ⟨[0x2a, 0xb7, 0x00, 0x01, 0x2a, 0x10, 0x06, 0x10, 0x28, 0xc5, 0x00, 0x09, 0x02, 0xb5, 0x00, 0x0b, 0x2a, 0x10, 0x06, 0xbc, 0x0a, 0xb5, 0x00, 0x0e, 0x2a, 0x07, 0x10, 0x3c, 0xc5, 0x00, 0x12, 0x02]⟩) 0 := dz_lies (m := 32) (Nat.zero_lt_succ _) rfl
theorem dX10_init_0 : decode cX10_init 0 = .ok (.aload_n 0, 1) := dz1 (k := 0) (m := 1) dzb0_cX10_init_0 di_0 (Nat.zero_lt_succ _) rfl
theorem dX10_init_1 : decode cX10_init 1 = .ok (.invokespecial 1, 3) := dz1 (k := 1) (m := 3) dzb0_cX10_init_0 di_1 (Nat.zero_lt_succ _) rfl
theorem dX10_init_4 : decode cX10_init 4 = .ok (.aload_n 0, 1) := dz1 (k := 4) (m := 1) dzb0_cX10_init_0 di_0 (Nat.zero_lt_succ _) rfl
theorem dX10_init_5 : decode cX10_init 5 = .ok (.bipush 6, 2) := dz1 (k := 5) (m := 2) dzb0_cX10_init_0 di_86 (Nat.zero_lt_succ _) rfl
theorem dX10_init_7 : decode cX10_init 7 = .ok (.bipush 40, 2) := dz1 (k := 7) (m := 2) dzb0_cX10_init_0 di_16 (Nat.zero_lt_succ _) rfl
theorem dX10_init_9 : decode cX10_init 9 = .ok (.multianewarray 9 2, 4) := dz1 (k := 9) (m := 4) dzb0_cX10_init_0 di_192 (Nat.zero_lt_succ _) rfl
theorem dX10_init_13 : decode cX10_init 13 = .ok (.putfield 11, 3) := dz1 (k := 13) (m := 3) dzb0_cX10_init_0 di_193 (Nat.zero_lt_succ _) rfl
theorem dX10_init_16 : decode cX10_init 16 = .ok (.aload_n 0, 1) := dz1 (k := 16) (m := 1) dzb0_cX10_init_0 di_0 (Nat.zero_lt_succ _) rfl
theorem dX10_init_17 : decode cX10_init 17 = .ok (.bipush 6, 2) := dz1 (k := 17) (m := 2) dzb0_cX10_init_0 di_86 (Nat.zero_lt_succ _) rfl
theorem dX10_init_19 : decode cX10_init 19 = .ok (.newarray .int, 2) := dz1 (k := 19) (m := 2) dzb0_cX10_init_0 di_17 (Nat.zero_lt_succ _) rfl
theorem dX10_init_21 : decode cX10_init 21 = .ok (.putfield 14, 3) := dz1 (k := 21) (m := 3) dzb0_cX10_init_0 di_194 (Nat.zero_lt_succ _) rfl
theorem dX10_init_24 : decode cX10_init 24 = .ok (.aload_n 0, 1) := dz1 (k := 24) (m := 1) dzb0_cX10_init_0 di_0 (Nat.zero_lt_succ _) rfl
theorem dX10_init_25 : decode cX10_init 25 = .ok (.iconst 4, 1) := dz1 (k := 25) (m := 1) dzb0_cX10_init_0 di_33 (Nat.zero_lt_succ _) rfl
theorem dX10_init_26 : decode cX10_init 26 = .ok (.bipush 60, 2) := dz1 (k := 26) (m := 2) dzb0_cX10_init_0 di_195 (Nat.zero_lt_succ _) rfl
theorem dX10_init_28 : decode cX10_init 28 = .ok (.multianewarray 18 2, 4) := dz1 (k := 28) (m := 4) dzb0_cX10_init_0 di_196 (Nat.zero_lt_succ _) rfl
set_option maxRecDepth 100000 in
theorem dzb0_cX10_init_32 : DzLies cX10_init (.mk ⟨[0xb5, 0x00, 0x14, 0x2a, 0x07, 0xbc, 0x0a, 0xb5, 0x00, 0x17, 0x2a, 0xbb, 0x00, 0x1a, 0x59, 0xb7, 0x00, 0x1c, 0xb5, 0x00, 0x1d, 0x2a, 0xbb, 0x00, 0x21, 0x59, 0xb7, 0x00, 0x23, 0xb5, 0x00, 0x24]⟩) 32 := dz_lies (m := 32) (Nat.zero_lt_succ _) rfl
theorem dX10_init_32 : decode cX10_init 32 = .ok (.putfield 20, 3) := dz1 (k := 0) (m := 3) dzb0_cX10_init_32 di_89 (Nat.zero_lt_succ _) rfl
theorem dX10_init_35 : decode cX10_init 35 = .ok (.aload_n 0, 1) := dz1 (k := 3) (m := 1) dzb0_cX10_init_32 di_0 (Nat.zero_lt_succ _) rfl
theorem dX10_init_36 : decode cX10_init 36 = .ok (.iconst 4, 1) := dz1 (k := 4) (m := 1) dzb0_cX10_init_32 di_33 (Nat.zero_lt_succ _) rfl
theorem dX10_init_37 : decode cX10_init 37 = .ok (.newarray .int, 2) := dz1 (k := 5) (m := 2) dzb0_cX10_init_32 di_17 (Nat.zero_lt_succ _) rfl
theorem dX10_init_39 : decode cX10_init 39 = .ok (.putfield 23, 3) := dz1 (k := 7) (m := 3) dzb0_cX10_init_32 di_197 (Nat.zero_lt_succ _) rfl
theorem dX10_init_42 : decode cX10_init 42 = .ok (.aload_n 0, 1) := dz1 (k := 10) (m := 1) dzb0_cX10_init_32 di_0 (Nat.zero_lt_succ _) rfl
theorem dX10_init_43 : decode cX10_init 43 = .ok (.new 26, 3) := dz1 (k := 11) (m := 3) dzb0_cX10_init_32 di_198 (Nat.zero_lt_succ _) rfl
theorem dX10_init_46 : decode cX10_init 46 = .ok (.dup, 1) := dz1 (k := 14) (m := 1) dzb0_cX10_init_32 di_23 (Nat.zero_lt_succ _) rfl
theorem dX10_init_47 : decode cX10_init 47 = .ok (.invokespecial 28, 3) := dz1 (k := 15) (m := 3) dzb0_cX10_init_32 di_199 (Nat.zero_lt_succ _) rfl
theorem dX10_init_50 : decode cX10_init 50 = .ok (.putfield 29, 3) := dz1 (k := 18) (m := 3) dzb0_cX10_init_32 di_200 (Nat.zero_lt_succ _) rfl
theorem dX10_init_53 : decode cX10_init 53 = .ok (.aload_n 0, 1) := dz1 (k := 21) (m := 1) dzb0_cX10_init_32 di_0 (Nat.zero_lt_succ _) rfl
theorem dX10_init_54 : decode cX10_init 54 = .ok (.new 33, 3) := dz1 (k := 22) (m := 3) dzb0_cX10_init_32 di_201 (Nat.zero_lt_succ _) rfl
theorem dX10_init_57 : decode cX10_init 57 = .ok (.dup, 1) := dz1 (k := 25) (m := 1) dzb0_cX10_init_32 di_23 (Nat.zero_lt_succ _) rfl
theorem dX10_init_58 : decode cX10_init 58 = .ok (.invokespecial 35, 3) := dz1 (k := 26) (m := 3) dzb0_cX10_init_32 di_202 (Nat.zero_lt_succ _) rfl
theorem dX10_init_61 : decode cX10_init 61 = .ok (.putfield 36, 3) := dz1 (k := 29) (m := 3) dzb0_cX10_init_32 di_203 (Nat.zero_lt_succ _) rfl
set_option maxRecDepth 100000 in
theorem dzb0_cX10_init_64 : DzLies cX10_init (.mk ⟨[0x2a, 0xbb, 0x00, 0x28, 0x59, 0x2a, 0xb4, 0x00, 0x24, 0xb7, 0x00, 0x2a, 0xb5, 0x00, 0x2d, 0x2a, 0xbb, 0x00, 0x31, 0x59, 0xb7, 0x00, 0x33, 0xb5, 0x00, 0x34, 0x2a, 0x06, 0xbd, 0x00, 0x31, 0xb5, 0x00, 0x38]⟩) 64 := dz_lies (m := 34) (Nat.zero_lt_succ _) rfl
theorem dX10_init_64 : decode cX10_init 64 = .ok (.aload_n 0, 1) := dz1 (k := 0) (m := 1) dzb0_cX10_init_64 di_0 (Nat.zero_lt_succ _) rfl
theorem dX10_init_65 : decode cX10_init 65 = .ok (.new 40, 3) := dz1 (k := 1) (m := 3) dzb0_cX10_init_64 di_204 (Nat.zero_lt_succ _) rfl
theorem dX10_init_68 : decode cX10_init 68 = .ok (.dup, 1) := dz1 (k := 4) (m := 1) dzb0_cX10_init_64 di_23 (Nat.zero_lt_succ _) rfl
theorem dX10_init_69 : decode cX10_init 69 = .ok (.aload_n 0, 1) := dz1 (k := 5) (m := 1) dzb0_cX10_init_64 di_0 (Nat.zero_lt_succ _) rfl
theorem dX10_init_70 : decode cX10_init 70 = .ok (.getfield 36, 3) := dz1 (k := 6) (m := 3) dzb0_cX10_init_64 di_205 (Nat.zero_lt_succ _) rfl
theorem dX10_init_73 : decode cX10_init 73 = .ok (.invokespecial 42, 3) := dz1 (k := 9) (m := 3) dzb0_cX10_init_64 di_206 (Nat.zero_lt_succ _) rfl
theorem dX10_init_76 : decode cX10_init 76 = .ok (.putfield 45, 3) := dz1 (k := 12) (m := 3) dzb0_cX10_init_64 di_207 (Nat.zero_lt_succ _) rfl
theorem dX10_init_79 : decode cX10_init 79 = .ok (.aload_n 0, 1) := dz1 (k := 15) (m := 1) dzb0_cX10_init_64 di_0 (Nat.zero_lt_succ _) rfl
theorem dX10_init_80 : decode cX10_init 80 = .ok (.new 49, 3) := dz1 (k := 16) (m := 3) dzb0_cX10_init_64 di_208 (Nat.zero_lt_succ _) rfl
theorem dX10_init_83 : decode cX10_init 83 = .ok (.dup, 1) := dz1 (k := 19) (m := 1) dzb0_cX10_init_64 di_23 (Nat.zero_lt_succ _) rfl
theorem dX10_init_84 : decode cX10_init 84 = .ok (.invokespecial 51, 3) := dz1 (k := 20) (m := 3) dzb0_cX10_init_64 di_209 (Nat.zero_lt_succ _) rfl
theorem dX10_init_87 : decode cX10_init 87 = .ok (.putfield 52, 3) := dz1 (k := 23) (m := 3) dzb0_cX10_init_64 di_210 (Nat.zero_lt_succ _) rfl
theorem dX10_init_90 : decode cX10_init 90 = .ok (.aload_n 0, 1) := dz1 (k := 26) (m := 1) dzb0_cX10_init_64 di_0 (Nat.zero_lt_succ _) rfl
theorem dX10_init_91 : decode cX10_init 91 = .ok (.iconst 3, 1) := dz1 (k := 27) (m := 1) dzb0_cX10_init_64 di_4 (Nat.zero_lt_succ _) rfl
theorem dX10_init_92 : decode cX10_init 92 = .ok (.anewarray 49, 3) := dz1 (k := 28) (m := 3) dzb0_cX10_init_64 di_211 (Nat.zero_lt_succ _) rfl
theorem dX10_init_95 : decode cX10_init 95 = .ok (.putfield 56, 3) := dz1 (k := 31) (m := 3) dzb0_cX10_init_64 di_212 (Nat.zero_lt_succ _) rfl
set_option maxRecDepth 100000 in
theorem dzb0_cX10_init_96 : DzLies cX10_init (.mk ⟨[0x00, 0x38, 0x2a, 0x08, 0xbd, 0x00, 0x28, 0xb5, 0x00, 0x3c, 0x2a, 0x07, 0xbc, 0x0a, 0xb5, 0x00, 0x40, 0x2a, 0x10, 0x07, 0xbc, 0x0a, 0xb5, 0x00, 0x43, 0x2a, 0x0a, 0xb5, 0x00, 0x46, 0x2a, 0x10, 0x06]⟩) 96 := dz_lies (m := 33) (Nat.zero_lt_succ _) rfl
theorem dX10_init_98 : decode cX10_init 98 = .ok (.aload_n 0, 1) := dz1 (k := 2) (m := 1) dzb0_cX10_init_96 di_0 (Nat.zero_lt_succ _) rfl
theorem dX10_init_99 : decode cX10_init 99 = .ok (.iconst 5, 1) := dz1 (k := 3) (m := 1) dzb0_cX10_init_96 di_145 (Nat.zero_lt_succ _) rfl
theorem dX10_init_100 : decode cX10_init 100 = .ok (.anewarray 40, 3) := dz1 (k := 4) (m := 3) dzb0_cX10_init_96 di_213 (Nat.zero_lt_succ _) rfl
theorem dX10_init_103 : decode cX10_init 103 = .ok (.putfield 60, 3) := dz1 (k := 7) (m := 3) dzb0_cX10_init_96 di_214 (Nat.zero_lt_succ _) rfl
theorem dX10_init_106 : decode cX10_init 106 = .ok (.aload_n 0, 1) := dz1 (k := 10) (m := 1) dzb0_cX10_init_96 di_0 (Nat.zero_lt_succ _) rfl
theorem dX10_init_107 : decode cX10_init 107 = .ok (.iconst 4, 1) := dz1 (k := 11) (m := 1) dzb0_cX10_init_96 di_33 (Nat.zero_lt_succ _) rfl
theorem dX10_init_108 : decode cX10_init 108 = .ok (.newarray .int, 2) := dz1 (k := 12) (m := 2) dzb0_cX10_init_96 di_17 (Nat.zero_lt_succ _) rfl
theorem dX10_init_110 : decode cX10_init 110 = .ok (.putfield 64, 3) := dz1 (k := 14) (m := 3) dzb0_cX10_init_96 di_215 (Nat.zero_lt_succ _) rfl
theorem dX10_init_113 : decode cX10_init 113 = .ok (.aload_n 0, 1) := dz1 (k := 17) (m := 1) dzb0_cX10_init_96 di_0 (Nat.zero_lt_succ _) rfl
theorem dX10_init_114 : decode cX10_init 114 = .ok (.bipush 7, 2) := dz1 (k := 18) (m := 2) dzb0_cX10_init_96 di_83 (Nat.zero_lt_succ _) rfl
theorem dX10_init_116 : decode cX10_init 116 = .ok (.newarray .int, 2) := dz1 (k := 20) (m := 2) dzb0_cX10_init_96 di_17 (Nat.zero_lt_succ _) rfl
theorem dX10_init_118 : decode cX10_init 118 = .ok (.putfield 67, 3) := dz1 (k := 22) (m := 3) dzb0_cX10_init_96 di_216 (Nat.zero_lt_succ _) rfl
theorem dX10_init_121 : decode cX10_init 121 = .ok (.aload_n 0, 1) := dz1 (k := 25) (m := 1) dzb0_cX10_init_96 di_0 (Nat.zero_lt_succ _) rfl
theorem dX10_init_122 : decode cX10_init 122 = .ok (.lconst 1, 1) := dz1 (k := 26) (m := 1) dzb0_cX10_init_96 di_217 (Nat.zero_lt_succ _) rfl
theorem dX10_init_123 : decode cX10_init 123 = .ok (.putfield 70, 3) := dz1 (k := 27) (m := 3) dzb0_cX10_init_96 di_218 (Nat.zero_lt_succ _) rfl
theorem dX10_init_126 : decode cX10_init 126 = .ok (.aload_n 0, 1) := dz1 (k := 30) (m := 1) dzb0_cX10_init_96 di_0 (Nat.zero_lt_succ _) rfl
theorem dX10_init_127 : decode cX10_init 127 = .ok (.bipush 6, 2) := dz1 (k := 31) (m := 2) dzb0_cX10_init_96 di_86 (Nat.zero_lt_succ _) rfl
set_option maxRecDepth 100000 in
theorem dzb0_cX10_init_128 : DzLies cX10_init (.mk ⟨[0x06, 0xbc, 0x0a, 0xb5, 0x00, 0x4a, 0x2a, 0xb4, 0x00, 0x0e, 0x02, 0xb8, 0x00, 0x4d, 0x2a, 0xb4, 0x00, 0x17, 0x02, 0xb8, 0x00, 0x4d, 0x03, 0x3c, 0x1b, 0x06, 0xa2, 0x00, 0x20, 0x2a, 0xb4, 0x00, 0x38]⟩) 128 := dz_lies (m := 33) (Nat.zero_lt_succ _) rfl
theorem dX10_init_129 : decode cX10_init 129 = .ok (.newarray .int, 2) := dz1 (k := 1) (m := 2) dzb0_cX10_init_128 di_17 (Nat.zero_lt_succ _) rfl
theorem dX10_init_131 : decode cX10_init 131 = .ok (.putfield 74, 3) := dz1 (k := 3) (m := 3) dzb0_cX10_init_128 di_219 (Nat.zero_lt_succ _) rfl
theorem dX10_init_134 : decode cX10_init 134 = .ok (.aload_n 0, 1) := dz1 (k := 6) (m := 1) dzb0_cX10_init_128 di_0 (Nat.zero_lt_succ _) rfl
theorem dX10_init_135 : decode cX10_init 135 = .ok (.getfield 14, 3) := dz1 (k := 7) (m := 3) dzb0_cX10_init_128 di_220 (Nat.zero_lt_succ _) rfl
theorem dX10_init_138 : decode cX10_init 138 = .ok (.iconst (-1), 1) := dz1 (k := 10) (m := 1) dzb0_cX10_init_128 di_65 (Nat.zero_lt_succ _) rfl
theorem dX10_init_139 : decode cX10_init 139 = .ok (.invokestatic 77, 3) := dz1 (k := 11) (m := 3) dzb0_cX10_init_128 di_221 (Nat.zero_lt_succ _) rfl
theorem dX10_init_142 : decode cX10_init 142 = .ok (.aload_n 0, 1) := dz1 (k := 14) (m := 1) dzb0_cX10_init_128 di_0 (Nat.zero_lt_succ _) rfl
theorem dX10_init_143 : decode cX10_init 143 = .ok (.getfield 23, 3) := dz1 (k := 15) (m := 3) dzb0_cX10_init_128 di_222 (Nat.zero_lt_succ _) rfl
theorem dX10_init_146 : decode cX10_init 146 = .ok (.iconst (-1), 1) := dz1 (k := 18) (m := 1) dzb0_cX10_init_128 di_65 (Nat.zero_lt_succ _) rfl
theorem dX10_init_147 : decode cX10_init 147 = .ok (.invokestatic 77, 3) := dz1 (k := 19) (m := 3) dzb0_cX10_init_128 di_221 (Nat.zero_lt_succ _) rfl
theorem dX10_init_150 : decode cX10_init 150 = .ok (.iconst 0, 1) := dz1 (k := 22) (m := 1) dzb0_cX10_init_128 di_8 (Nat.zero_lt_succ _) rfl
theorem dX10_init_151 : decode cX10_init 151 = .ok (.istore_n 1, 1) := dz1 (k := 23) (m := 1) dzb0_cX10_init_128 di_68 (Nat.zero_lt_succ _) rfl
theorem dX10_init_152 : decode cX10_init 152 = .ok (.iload_n 1, 1) := dz1 (k := 24) (m := 1) dzb0_cX10_init_128 di_11 (Nat.zero_lt_succ _) rfl
theorem dX10_init_153 : decode cX10_init 153 = .ok (.iconst 3, 1) := dz1 (k := 25) (m := 1) dzb0_cX10_init_128 di_4 (Nat.zero_lt_succ _) rfl
theorem dX10_init_154 : decode cX10_init 154 = .ok (.if_icmp .ge 32, 3) := dz1 (k := 26) (m := 3) dzb0_cX10_init_128 di_223 (Nat.zero_lt_succ _) rfl
theorem dX10_init_157 : decode cX10_init 157 = .ok (.aload_n 0, 1) := dz1 (k := 29) (m := 1) dzb0_cX10_init_128 di_0 (Nat.zero_lt_succ _) rfl
theorem dX10_init_158 : decode cX10_init 158 = .ok (.getfield 56, 3) := dz1 (k := 30) (m := 3) dzb0_cX10_init_128 di_224 (Nat.zero_lt_succ _) rfl
set_option maxRecDepth 100000 in
theorem dzb0_cX10_init_160 : DzLies cX10_init (.mk ⟨[0x38, 0x1b, 0xbb, 0x00, 0x31, 0x59, 0xb7, 0x00, 0x33, 0x53, 0x2a, 0xb4, 0x00, 0x38, 0x1b, 0x32, 0x02, 0xb5, 0x00, 0x53, 0x84, 0x01, 0x01, 0xa7, 0xff, 0xe1, 0x03, 0x3c, 0x1b, 0x07, 0xa3, 0x00, 0x1a]⟩) 160 := dz_lies (m := 33) (Nat.zero_lt_succ _) rfl
theorem dX10_init_161 : decode cX10_init 161 = .ok (.iload_n 1, 1) := dz1 (k := 1) (m := 1) dzb0_cX10_init_160 di_11 (Nat.zero_lt_succ _) rfl
theorem dX10_init_162 : decode cX10_init 162 = .ok (.new 49, 3) := dz1 (k := 2) (m := 3) dzb0_cX10_init_160 di_208 (Nat.zero_lt_succ _) rfl
theorem dX10_init_165 : decode cX10_init 165 = .ok (.dup, 1) := dz1 (k := 5) (m := 1) dzb0_cX10_init_160 di_23 (Nat.zero_lt_succ _) rfl
theorem dX10_init_166 : decode cX10_init 166 = .ok (.invokespecial 51, 3) := dz1 (k := 6) (m := 3) dzb0_cX10_init_160 di_209 (Nat.zero_lt_succ _) rfl
theorem dX10_init_169 : decode cX10_init 169 = .ok (.aastore, 1) := dz1 (k := 9) (m := 1) dzb0_cX10_init_160 di_136 (Nat.zero_lt_succ _) rfl
theorem dX10_init_170 : decode cX10_init 170 = .ok (.aload_n 0, 1) := dz1 (k := 10) (m := 1) dzb0_cX10_init_160 di_0 (Nat.zero_lt_succ _) rfl
theorem dX10_init_171 : decode cX10_init 171 = .ok (.getfield 56, 3) := dz1 (k := 11) (m := 3) dzb0_cX10_init_160 di_224 (Nat.zero_lt_succ _) rfl
theorem dX10_init_174 : decode cX10_init 174 = .ok (.iload_n 1, 1) := dz1 (k := 14) (m := 1) dzb0_cX10_init_160 di_11 (Nat.zero_lt_succ _) rfl
theorem dX10_init_175 : decode cX10_init 175 = .ok (.aaload, 1) := dz1 (k := 15) (m := 1) dzb0_cX10_init_160 di_130 (Nat.zero_lt_succ _) rfl
theorem dX10_init_176 : decode cX10_init 176 = .ok (.iconst (-1), 1) := dz1 (k := 16) (m := 1) dzb0_cX10_init_160 di_65 (Nat.zero_lt_succ _) rfl
theorem dX10_init_177 : decode cX10_init 177 = .ok (.putfield 83, 3) := dz1 (k := 17) (m := 3) dzb0_cX10_init_160 di_225 (Nat.zero_lt_succ _) rfl
theorem dX10_init_180 : decode cX10_init 180 = .ok (.iinc 1 1, 3) := dz1 (k := 20) (m := 3) dzb0_cX10_init_160 di_111 (Nat.zero_lt_succ _) rfl
theorem dX10_init_183 : decode cX10_init 183 = .ok (.goto (-31), 3) := dz1 (k := 23) (m := 3) dzb0_cX10_init_160 di_169 (Nat.zero_lt_succ _) rfl
theorem dX10_init_186 : decode cX10_init 186 = .ok (.iconst 0, 1) := dz1 (k := 26) (m := 1) dzb0_cX10_init_160 di_8 (Nat.zero_lt_succ _) rfl
theorem dX10_init_187 : decode cX10_init 187 = .ok (.istore_n 1, 1) := dz1 (k := 27) (m := 1) dzb0_cX10_init_160 di_68 (Nat.zero_lt_succ _) rfl
theorem dX10_init_188 : decode cX10_init 188 = .ok (.iload_n 1, 1) := dz1 (k := 28) (m := 1) dzb0_cX10_init_160 di_11 (Nat.zero_lt_succ _) rfl
theorem dX10_init_189 : decode cX10_init 189 = .ok (.iconst 4, 1) := dz1 (k := 29) (m := 1) dzb0_cX10_init_160 di_33 (Nat.zero_lt_succ _) rfl
theorem dX10_init_190 : decode cX10_init 190 = .ok (.if_icmp .gt 26, 3) := dz1 (k := 30) (m := 3) dzb0_cX10_init_160 di_226 (Nat.zero_lt_succ _) rfl
set_option maxRecDepth 100000 in
theorem dzb0_cX10_init_192 : DzLies cX10_init (.mk ⟨[0x1a, 0x2a, 0xb4, 0x00, 0x3c, 0x1b, 0xbb, 0x00, 0x28, 0x59, 0x2a, 0xb4, 0x00, 0x24, 0xb7, 0x00, 0x2a, 0x53, 0x84, 0x01, 0x01, 0xa7, 0xff, 0xe7, 0xb1]⟩) 192 := dz_lies (m := 25) (Nat.zero_lt_succ _) rfl
theorem dX10_init_193 : decode cX10_init 193 = .ok (.aload_n 0, 1) := dz1 (k := 1) (m := 1) dzb0_cX10_init_192 di_0 (Nat.zero_lt_succ _) rfl
theorem dX10_init_194 : decode cX10_init 194 = .ok (.getfield 60, 3) := dz1 (k := 2) (m := 3) dzb0_cX10_init_192 di_227 (Nat.zero_lt_succ _) rfl
theorem dX10_init_197 : decode cX10_init 197 = .ok (.iload_n 1, 1) := dz1 (k := 5) (m := 1) dzb0_cX10_init_192 di_11 (Nat.zero_lt_succ _) rfl
theorem dX10_init_198 : decode cX10_init 198 = .ok (.new 40, 3) := dz1 (k := 6) (m := 3) dzb0_cX10_init_192 di_204 (Nat.zero_lt_succ _) rfl
theorem dX10_init_201 : decode cX10_init 201 = .ok (.dup, 1) := dz1 (k := 9) (m := 1) dzb0_cX10_init_192 di_23 (Nat.zero_lt_succ _) rfl
theorem dX10_init_202 : decode cX10_init 202 = .ok (.aload_n 0, 1) := dz1 (k := 10) (m := 1) dzb0_cX10_init_192 di_0 (Nat.zero_lt_succ _) rfl
theorem dX10_init_203 : decode cX10_init 203 = .ok (.getfield 36, 3) := dz1 (k := 11) (m := 3) dzb0_cX10_init_192 di_205 (Nat.zero_lt_succ _) rfl
theorem dX10_init_206 : decode cX10_init 206 = .ok (.invokespecial 42, 3) := dz1 (k := 14) (m := 3) dzb0_cX10_init_192 di_206 (Nat.zero_lt_succ _) rfl
theorem dX10_init_209 : decode cX10_init 209 = .ok (.aastore, 1) := dz1 (k := 17) (m := 1) dzb0_cX10_init_192 di_136 (Nat.zero_lt_succ _) rfl
theorem dX10_init_210 : decode cX10_init 210 = .ok (.iinc 1 1, 3) := dz1 (k := 18) (m := 3) dzb0_cX10_init_192 di_111 (Nat.zero_lt_succ _) rfl
theorem dX10_init_213 : decode cX10_init 213 = .ok (.goto (-25), 3) := dz1 (k := 21) (m := 3) dzb0_cX10_init_192 di_172 (Nat.zero_lt_succ _) rfl
theorem dX10_init_216 : decode cX10_init 216 = .ok (.return_, 1) := dz1 (k := 24) (m := 1) dzb0_cX10_init_192 di_2 (Nat.zero_lt_succ _) rfl
set_option maxRecDepth 100000 in
theorem dzb0_cX10_row_0 : DzLies cX10_row (.mk ⟨[0x2a, 0x1b, 0xb6, 0x00, 0x57, 0x99, 0x00, 0x09, 0x1c, 0x10, 0x28, 0xa4, 0x00, 0x05, 0x02, 0xac, 0x1c, 0x9c, 0x00, 0x09, 0x2a, 0x08, 0xb6, 0x00, 0x5b, 0xac, 0x2a, 0xb4, 0x00, 0x0b, 0x1b, 0x32]⟩) 0 := dz_lies (m := 32) (Nat.zero_lt_succ _) rfl
theorem dX10_row_0 : decode cX10_row 0 = .ok (.aload_n 0, 1) := dz1 (k := 0) (m := 1) dzb0_cX10_row_0 di_0 (Nat.zero_lt_succ _) rfl
theorem dX10_row_1 : decode cX10_row 1 = .ok (.iload_n 1, 1) := dz1 (k := 1) (m := 1) dzb0_cX10_row_0 di_11 (Nat.zero_lt_succ _) rfl
theorem dX10_row_2 : decode cX10_row 2 = .ok (.invokevirtual 87, 3) := dz1 (k := 2) (m := 3) dzb0_cX10_row_0 di_228 (Nat.zero_lt_succ _) rfl
theorem dX10_row_5 : decode cX10_row 5 = .ok (.ifCond .eq 9, 3) := dz1 (k := 5) (m := 3) dzb0_cX10_row_0 di_229 (Nat.zero_lt_succ _) rfl
theorem dX10_row_8 : decode cX10_row 8 = .ok (.iload_n 2, 1) := dz1 (k := 8) (m := 1) dzb0_cX10_row_0 di_28 (Nat.zero_lt_succ _) rfl
theorem dX10_row_9 : decode cX10_row 9 = .ok (.bipush 40, 2) := dz1 (k := 9) (m := 2) dzb0_cX10_row_0 di_16 (Nat.zero_lt_succ _) rfl
theorem dX10_row_11 : decode cX10_row 11 = .ok (.if_icmp .le 5, 3) := dz1 (k := 11) (m := 3) dzb0_cX10_row_0 di_230 (Nat.zero_lt_succ _) rfl
theorem dX10_row_14 : decode cX10_row 14 = .ok (.iconst (-1), 1) := dz1 (k := 14) (m := 1) dzb0_cX10_row_0 di_65 (Nat.zero_lt_succ _) rfl
theorem dX10_row_15 : decode cX10_row 15 = .ok (.ireturn, 1) := dz1 (k := 15) (m := 1) dzb0_cX10_row_0 di_13 (Nat.zero_lt_succ _) rfl
theorem dX10_row_16 : decode cX10_row 16 = .ok (.iload_n 2, 1) := dz1 (k := 16) (m := 1) dzb0_cX10_row_0 di_28 (Nat.zero_lt_succ _) rfl
theorem dX10_row_17 : decode cX10_row 17 = .ok (.ifCond .ge 9, 3) := dz1 (k := 17) (m := 3) dzb0_cX10_row_0 di_231 (Nat.zero_lt_succ _) rfl
theorem dX10_row_20 : decode cX10_row 20 = .ok (.aload_n 0, 1) := dz1 (k := 20) (m := 1) dzb0_cX10_row_0 di_0 (Nat.zero_lt_succ _) rfl
theorem dX10_row_21 : decode cX10_row 21 = .ok (.iconst 5, 1) := dz1 (k := 21) (m := 1) dzb0_cX10_row_0 di_145 (Nat.zero_lt_succ _) rfl
theorem dX10_row_22 : decode cX10_row 22 = .ok (.invokevirtual 91, 3) := dz1 (k := 22) (m := 3) dzb0_cX10_row_0 di_232 (Nat.zero_lt_succ _) rfl
theorem dX10_row_25 : decode cX10_row 25 = .ok (.ireturn, 1) := dz1 (k := 25) (m := 1) dzb0_cX10_row_0 di_13 (Nat.zero_lt_succ _) rfl
theorem dX10_row_26 : decode cX10_row 26 = .ok (.aload_n 0, 1) := dz1 (k := 26) (m := 1) dzb0_cX10_row_0 di_0 (Nat.zero_lt_succ _) rfl
theorem dX10_row_27 : decode cX10_row 27 = .ok (.getfield 11, 3) := dz1 (k := 27) (m := 3) dzb0_cX10_row_0 di_233 (Nat.zero_lt_succ _) rfl
theorem dX10_row_30 : decode cX10_row 30 = .ok (.iload_n 1, 1) := dz1 (k := 30) (m := 1) dzb0_cX10_row_0 di_11 (Nat.zero_lt_succ _) rfl
theorem dX10_row_31 : decode cX10_row 31 = .ok (.aaload, 1) := dz1 (k := 31) (m := 1) dzb0_cX10_row_0 di_130 (Nat.zero_lt_succ _) rfl
set_option maxRecDepth 100000 in
theorem dzb0_cX10_row_32 : DzLies cX10_row (.mk ⟨[0x03, 0xb8, 0x00, 0x4d, 0x2a, 0xb4, 0x00, 0x0e, 0x1b, 0x1c, 0x4f, 0x1c, 0xac]⟩) 32 := dz_lies (m := 13) (Nat.zero_lt_succ _) rfl
theorem dX10_row_32 : decode cX10_row 32 = .ok (.iconst 0, 1) := dz1 (k := 0) (m := 1) dzb0_cX10_row_32 di_8 (Nat.zero_lt_succ _) rfl
theorem dX10_row_33 : decode cX10_row 33 = .ok (.invokestatic 77, 3) := dz1 (k := 1) (m := 3) dzb0_cX10_row_32 di_221 (Nat.zero_lt_succ _) rfl
theorem dX10_row_36 : decode cX10_row 36 = .ok (.aload_n 0, 1) := dz1 (k := 4) (m := 1) dzb0_cX10_row_32 di_0 (Nat.zero_lt_succ _) rfl
theorem dX10_row_37 : decode cX10_row 37 = .ok (.getfield 14, 3) := dz1 (k := 5) (m := 3) dzb0_cX10_row_32 di_220 (Nat.zero_lt_succ _) rfl
theorem dX10_row_40 : decode cX10_row 40 = .ok (.iload_n 1, 1) := dz1 (k := 8) (m := 1) dzb0_cX10_row_32 di_11 (Nat.zero_lt_succ _) rfl
theorem dX10_row_41 : decode cX10_row 41 = .ok (.iload_n 2, 1) := dz1 (k := 9) (m := 1) dzb0_cX10_row_32 di_28 (Nat.zero_lt_succ _) rfl
theorem dX10_row_42 : decode cX10_row 42 = .ok (.iastore, 1) := dz1 (k := 10) (m := 1) dzb0_cX10_row_32 di_22 (Nat.zero_lt_succ _) rfl
theorem dX10_row_43 : decode cX10_row 43 = .ok (.iload_n 2, 1) := dz1 (k := 11) (m := 1) dzb0_cX10_row_32 di_28 (Nat.zero_lt_succ _) rfl
theorem dX10_row_44 : decode cX10_row 44 = .ok (.ireturn, 1) := dz1 (k := 12) (m := 1) dzb0_cX10_row_32 di_13 (Nat.zero_lt_succ _) rfl
set_option maxRecDepth 100000 in
theorem dzb0_cX10_lay_0 : DzLies cX10_lay (.mk ⟨[0x2a, 0x1b, 0x1c, 0xb6, 0x00, 0x5f, 0x36, 0x04, 0x15, 0x04, 0x99, 0x00, 0x06, 0x15, 0x04, 0xac, 0x2a, 0x2a, 0xb4, 0x00, 0x0b, 0x1b, 0x32, 0x1c, 0x2e, 0xb5, 0x00, 0x63, 0x2a, 0xb4, 0x00, 0x0b]⟩) 0 := dz_lies (m := 32) (Nat.zero_lt_succ _) rfl
theorem dX10_lay_0 : decode cX10_lay 0 = .ok (.aload_n 0, 1) := dz1 (k := 0) (m := 1) dzb0_cX10_lay_0 di_0 (Nat.zero_lt_succ _) rfl
theorem dX10_lay_1 : decode cX10_lay 1 = .ok (.iload_n 1, 1) := dz1 (k := 1) (m := 1) dzb0_cX10_lay_0 di_11 (Nat.zero_lt_succ _) rfl
theorem dX10_lay_2 : decode cX10_lay 2 = .ok (.iload_n 2, 1) := dz1 (k := 2) (m := 1) dzb0_cX10_lay_0 di_28 (Nat.zero_lt_succ _) rfl
theorem dX10_lay_3 : decode cX10_lay 3 = .ok (.invokevirtual 95, 3) := dz1 (k := 3) (m := 3) dzb0_cX10_lay_0 di_234 (Nat.zero_lt_succ _) rfl
theorem dX10_lay_6 : decode cX10_lay 6 = .ok (.istore 4, 2) := dz1 (k := 6) (m := 2) dzb0_cX10_lay_0 di_51 (Nat.zero_lt_succ _) rfl
theorem dX10_lay_8 : decode cX10_lay 8 = .ok (.iload 4, 2) := dz1 (k := 8) (m := 2) dzb0_cX10_lay_0 di_52 (Nat.zero_lt_succ _) rfl
theorem dX10_lay_10 : decode cX10_lay 10 = .ok (.ifCond .eq 6, 3) := dz1 (k := 10) (m := 3) dzb0_cX10_lay_0 di_171 (Nat.zero_lt_succ _) rfl
theorem dX10_lay_13 : decode cX10_lay 13 = .ok (.iload 4, 2) := dz1 (k := 13) (m := 2) dzb0_cX10_lay_0 di_52 (Nat.zero_lt_succ _) rfl
theorem dX10_lay_15 : decode cX10_lay 15 = .ok (.ireturn, 1) := dz1 (k := 15) (m := 1) dzb0_cX10_lay_0 di_13 (Nat.zero_lt_succ _) rfl
theorem dX10_lay_16 : decode cX10_lay 16 = .ok (.aload_n 0, 1) := dz1 (k := 16) (m := 1) dzb0_cX10_lay_0 di_0 (Nat.zero_lt_succ _) rfl
theorem dX10_lay_17 : decode cX10_lay 17 = .ok (.aload_n 0, 1) := dz1 (k := 17) (m := 1) dzb0_cX10_lay_0 di_0 (Nat.zero_lt_succ _) rfl
theorem dX10_lay_18 : decode cX10_lay 18 = .ok (.getfield 11, 3) := dz1 (k := 18) (m := 3) dzb0_cX10_lay_0 di_233 (Nat.zero_lt_succ _) rfl
theorem dX10_lay_21 : decode cX10_lay 21 = .ok (.iload_n 1, 1) := dz1 (k := 21) (m := 1) dzb0_cX10_lay_0 di_11 (Nat.zero_lt_succ _) rfl
theorem dX10_lay_22 : decode cX10_lay 22 = .ok (.aaload, 1) := dz1 (k := 22) (m := 1) dzb0_cX10_lay_0 di_130 (Nat.zero_lt_succ _) rfl
theorem dX10_lay_23 : decode cX10_lay 23 = .ok (.iload_n 2, 1) := dz1 (k := 23) (m := 1) dzb0_cX10_lay_0 di_28 (Nat.zero_lt_succ _) rfl
theorem dX10_lay_24 : decode cX10_lay 24 = .ok (.iaload, 1) := dz1 (k := 24) (m := 1) dzb0_cX10_lay_0 di_30 (Nat.zero_lt_succ _) rfl
theorem dX10_lay_25 : decode cX10_lay 25 = .ok (.putfield 99, 3) := dz1 (k := 25) (m := 3) dzb0_cX10_lay_0 di_235 (Nat.zero_lt_succ _) rfl
theorem dX10_lay_28 : decode cX10_lay 28 = .ok (.aload_n 0, 1) := dz1 (k := 28) (m := 1) dzb0_cX10_lay_0 di_0 (Nat.zero_lt_succ _) rfl
theorem dX10_lay_29 : decode cX10_lay 29 = .ok (.getfield 11, 3) := dz1 (k := 29) (m := 3) dzb0_cX10_lay_0 di_233 (Nat.zero_lt_succ _) rfl
set_option maxRecDepth 100000 in
theorem dzb0_cX10_lay_32 : DzLies cX10_lay (.mk ⟨[0x1b, 0x32, 0x1c, 0x1d, 0x4f, 0x04, 0xac]⟩) 32 := dz_lies (m := 7) (Nat.zero_lt_succ _) rfl
theorem dX10_lay_32 : decode cX10_lay 32 = .ok (.iload_n 1, 1) := dz1 (k := 0) (m := 1) dzb0_cX10_lay_32 di_11 (Nat.zero_lt_succ _) rfl
theorem dX10_lay_33 : decode cX10_lay 33 = .ok (.aaload, 1) := dz1 (k := 1) (m := 1) dzb0_cX10_lay_32 di_130 (Nat.zero_lt_succ _) rfl
theorem dX10_lay_34 : decode cX10_lay 34 = .ok (.iload_n 2, 1) := dz1 (k := 2) (m := 1) dzb0_cX10_lay_32 di_28 (Nat.zero_lt_succ _) rfl
theorem dX10_lay_35 : decode cX10_lay 35 = .ok (.iload_n 3, 1) := dz1 (k := 3) (m := 1) dzb0_cX10_lay_32 di_3 (Nat.zero_lt_succ _) rfl
theorem dX10_lay_36 : decode cX10_lay 36 = .ok (.iastore, 1) := dz1 (k := 4) (m := 1) dzb0_cX10_lay_32 di_22 (Nat.zero_lt_succ _) rfl
theorem dX10_lay_37 : decode cX10_lay 37 = .ok (.iconst 1, 1) := dz1 (k := 5) (m := 1) dzb0_cX10_lay_32 di_10 (Nat.zero_lt_succ _) rfl
theorem dX10_lay_38 : decode cX10_lay 38 = .ok (.ireturn, 1) := dz1 (k := 6) (m := 1) dzb0_cX10_lay_32 di_13 (Nat.zero_lt_succ _) rfl
set_option maxRecDepth 100000 in
theorem dzb0_cX10_at_0 : DzLies cX10_at (.mk ⟨[0x2a, 0x1b, 0x1c, 0xb6, 0x00, 0x5f, 0x3e, 0x1d, 0x99, 0x00, 0x05, 0x1d, 0xac, 0x2a, 0x2a, 0xb4, 0x00, 0x0b, 0x1b, 0x32, 0x1c, 0x2e, 0xb5, 0x00, 0x63, 0x04, 0xac]⟩) 0 := dz_lies (m := 27) (Nat.zero_lt_succ _) rfl
theorem dX10_at_0 : decode cX10_at 0 = .ok (.aload_n 0, 1) := dz1 (k := 0) (m := 1) dzb0_cX10_at_0 di_0 (Nat.zero_lt_succ _) rfl
theorem dX10_at_1 : decode cX10_at 1 = .ok (.iload_n 1, 1) := dz1 (k := 1) (m := 1) dzb0_cX10_at_0 di_11 (Nat.zero_lt_succ _) rfl
theorem dX10_at_2 : decode cX10_at 2 = .ok (.iload_n 2, 1) := dz1 (k := 2) (m := 1) dzb0_cX10_at_0 di_28 (Nat.zero_lt_succ _) rfl
theorem dX10_at_3 : decode cX10_at 3 = .ok (.invokevirtual 95, 3) := dz1 (k := 3) (m := 3) dzb0_cX10_at_0 di_234 (Nat.zero_lt_succ _) rfl
theorem dX10_at_6 : decode cX10_at 6 = .ok (.istore_n 3, 1) := dz1 (k := 6) (m := 1) dzb0_cX10_at_0 di_50 (Nat.zero_lt_succ _) rfl
theorem dX10_at_7 : decode cX10_at 7 = .ok (.iload_n 3, 1) := dz1 (k := 7) (m := 1) dzb0_cX10_at_0 di_3 (Nat.zero_lt_succ _) rfl
theorem dX10_at_8 : decode cX10_at 8 = .ok (.ifCond .eq 5, 3) := dz1 (k := 8) (m := 3) dzb0_cX10_at_0 di_236 (Nat.zero_lt_succ _) rfl
theorem dX10_at_11 : decode cX10_at 11 = .ok (.iload_n 3, 1) := dz1 (k := 11) (m := 1) dzb0_cX10_at_0 di_3 (Nat.zero_lt_succ _) rfl
theorem dX10_at_12 : decode cX10_at 12 = .ok (.ireturn, 1) := dz1 (k := 12) (m := 1) dzb0_cX10_at_0 di_13 (Nat.zero_lt_succ _) rfl
theorem dX10_at_13 : decode cX10_at 13 = .ok (.aload_n 0, 1) := dz1 (k := 13) (m := 1) dzb0_cX10_at_0 di_0 (Nat.zero_lt_succ _) rfl
theorem dX10_at_14 : decode cX10_at 14 = .ok (.aload_n 0, 1) := dz1 (k := 14) (m := 1) dzb0_cX10_at_0 di_0 (Nat.zero_lt_succ _) rfl
theorem dX10_at_15 : decode cX10_at 15 = .ok (.getfield 11, 3) := dz1 (k := 15) (m := 3) dzb0_cX10_at_0 di_233 (Nat.zero_lt_succ _) rfl
theorem dX10_at_18 : decode cX10_at 18 = .ok (.iload_n 1, 1) := dz1 (k := 18) (m := 1) dzb0_cX10_at_0 di_11 (Nat.zero_lt_succ _) rfl
theorem dX10_at_19 : decode cX10_at 19 = .ok (.aaload, 1) := dz1 (k := 19) (m := 1) dzb0_cX10_at_0 di_130 (Nat.zero_lt_succ _) rfl
theorem dX10_at_20 : decode cX10_at 20 = .ok (.iload_n 2, 1) := dz1 (k := 20) (m := 1) dzb0_cX10_at_0 di_28 (Nat.zero_lt_succ _) rfl
theorem dX10_at_21 : decode cX10_at 21 = .ok (.iaload, 1) := dz1 (k := 21) (m := 1) dzb0_cX10_at_0 di_30 (Nat.zero_lt_succ _) rfl
theorem dX10_at_22 : decode cX10_at 22 = .ok (.putfield 99, 3) := dz1 (k := 22) (m := 3) dzb0_cX10_at_0 di_235 (Nat.zero_lt_succ _) rfl
theorem dX10_at_25 : decode cX10_at 25 = .ok (.iconst 1, 1) := dz1 (k := 25) (m := 1) dzb0_cX10_at_0 di_10 (Nat.zero_lt_succ _) rfl
theorem dX10_at_26 : decode cX10_at 26 = .ok (.ireturn, 1) := dz1 (k := 26) (m := 1) dzb0_cX10_at_0 di_13 (Nat.zero_lt_succ _) rfl
set_option maxRecDepth 100000 in
theorem dzb0_cX10_tear_0 : DzLies cX10_tear (.mk ⟨[0x2a, 0x1b, 0xb6, 0x00, 0x66, 0x3d, 0x1c, 0x99, 0x00, 0x05, 0x1c, 0xac, 0x2a, 0xb4, 0x00, 0x0e, 0x1b, 0x02, 0x4f, 0x04, 0xac]⟩) 0 := dz_lies (m := 21) (Nat.zero_lt_succ _) rfl
theorem dX10_tear_0 : decode cX10_tear 0 = .ok (.aload_n 0, 1) := dz1 (k := 0) (m := 1) dzb0_cX10_tear_0 di_0 (Nat.zero_lt_succ _) rfl
theorem dX10_tear_1 : decode cX10_tear 1 = .ok (.iload_n 1, 1) := dz1 (k := 1) (m := 1) dzb0_cX10_tear_0 di_11 (Nat.zero_lt_succ _) rfl
theorem dX10_tear_2 : decode cX10_tear 2 = .ok (.invokevirtual 102, 3) := dz1 (k := 2) (m := 3) dzb0_cX10_tear_0 di_237 (Nat.zero_lt_succ _) rfl
theorem dX10_tear_5 : decode cX10_tear 5 = .ok (.istore_n 2, 1) := dz1 (k := 5) (m := 1) dzb0_cX10_tear_0 di_27 (Nat.zero_lt_succ _) rfl
theorem dX10_tear_6 : decode cX10_tear 6 = .ok (.iload_n 2, 1) := dz1 (k := 6) (m := 1) dzb0_cX10_tear_0 di_28 (Nat.zero_lt_succ _) rfl
theorem dX10_tear_7 : decode cX10_tear 7 = .ok (.ifCond .eq 5, 3) := dz1 (k := 7) (m := 3) dzb0_cX10_tear_0 di_236 (Nat.zero_lt_succ _) rfl
theorem dX10_tear_10 : decode cX10_tear 10 = .ok (.iload_n 2, 1) := dz1 (k := 10) (m := 1) dzb0_cX10_tear_0 di_28 (Nat.zero_lt_succ _) rfl
theorem dX10_tear_11 : decode cX10_tear 11 = .ok (.ireturn, 1) := dz1 (k := 11) (m := 1) dzb0_cX10_tear_0 di_13 (Nat.zero_lt_succ _) rfl
theorem dX10_tear_12 : decode cX10_tear 12 = .ok (.aload_n 0, 1) := dz1 (k := 12) (m := 1) dzb0_cX10_tear_0 di_0 (Nat.zero_lt_succ _) rfl
theorem dX10_tear_13 : decode cX10_tear 13 = .ok (.getfield 14, 3) := dz1 (k := 13) (m := 3) dzb0_cX10_tear_0 di_220 (Nat.zero_lt_succ _) rfl
theorem dX10_tear_16 : decode cX10_tear 16 = .ok (.iload_n 1, 1) := dz1 (k := 16) (m := 1) dzb0_cX10_tear_0 di_11 (Nat.zero_lt_succ _) rfl
theorem dX10_tear_17 : decode cX10_tear 17 = .ok (.iconst (-1), 1) := dz1 (k := 17) (m := 1) dzb0_cX10_tear_0 di_65 (Nat.zero_lt_succ _) rfl
theorem dX10_tear_18 : decode cX10_tear 18 = .ok (.iastore, 1) := dz1 (k := 18) (m := 1) dzb0_cX10_tear_0 di_22 (Nat.zero_lt_succ _) rfl
theorem dX10_tear_19 : decode cX10_tear 19 = .ok (.iconst 1, 1) := dz1 (k := 19) (m := 1) dzb0_cX10_tear_0 di_10 (Nat.zero_lt_succ _) rfl
theorem dX10_tear_20 : decode cX10_tear 20 = .ok (.ireturn, 1) := dz1 (k := 20) (m := 1) dzb0_cX10_tear_0 di_13 (Nat.zero_lt_succ _) rfl
set_option maxRecDepth 100000 in
theorem dzb0_cX10_copy_0 : DzLies cX10_copy (.mk ⟨[0x2a, 0x1b, 0xb6, 0x00, 0x57, 0x99, 0x00, 0x0b, 0x2a, 0x1d, 0xb6, 0x00, 0x57, 0x9a, 0x00, 0x05, 0x02, 0xac, 0x15, 0x05, 0x9c, 0x00, 0x09, 0x2a, 0x08, 0xb6, 0x00, 0x5b, 0xac, 0x2a, 0xb4, 0x00, 0x0e]⟩) 0 := dz_lies (m := 33) (Nat.zero_lt_succ _) rfl
theorem dX10_copy_0 : decode cX10_copy 0 = .ok (.aload_n 0, 1) := dz1 (k := 0) (m := 1) dzb0_cX10_copy_0 di_0 (Nat.zero_lt_succ _) rfl
theorem dX10_copy_1 : decode cX10_copy 1 = .ok (.iload_n 1, 1) := dz1 (k := 1) (m := 1) dzb0_cX10_copy_0 di_11 (Nat.zero_lt_succ _) rfl
theorem dX10_copy_2 : decode cX10_copy 2 = .ok (.invokevirtual 87, 3) := dz1 (k := 2) (m := 3) dzb0_cX10_copy_0 di_228 (Nat.zero_lt_succ _) rfl
theorem dX10_copy_5 : decode cX10_copy 5 = .ok (.ifCond .eq 11, 3) := dz1 (k := 5) (m := 3) dzb0_cX10_copy_0 di_238 (Nat.zero_lt_succ _) rfl
theorem dX10_copy_8 : decode cX10_copy 8 = .ok (.aload_n 0, 1) := dz1 (k := 8) (m := 1) dzb0_cX10_copy_0 di_0 (Nat.zero_lt_succ _) rfl
theorem dX10_copy_9 : decode cX10_copy 9 = .ok (.iload_n 3, 1) := dz1 (k := 9) (m := 1) dzb0_cX10_copy_0 di_3 (Nat.zero_lt_succ _) rfl
theorem dX10_copy_10 : decode cX10_copy 10 = .ok (.invokevirtual 87, 3) := dz1 (k := 10) (m := 3) dzb0_cX10_copy_0 di_228 (Nat.zero_lt_succ _) rfl
theorem dX10_copy_13 : decode cX10_copy 13 = .ok (.ifCond .ne 5, 3) := dz1 (k := 13) (m := 3) dzb0_cX10_copy_0 di_239 (Nat.zero_lt_succ _) rfl
theorem dX10_copy_16 : decode cX10_copy 16 = .ok (.iconst (-1), 1) := dz1 (k := 16) (m := 1) dzb0_cX10_copy_0 di_65 (Nat.zero_lt_succ _) rfl
theorem dX10_copy_17 : decode cX10_copy 17 = .ok (.ireturn, 1) := dz1 (k := 17) (m := 1) dzb0_cX10_copy_0 di_13 (Nat.zero_lt_succ _) rfl
theorem dX10_copy_18 : decode cX10_copy 18 = .ok (.iload 5, 2) := dz1 (k := 18) (m := 2) dzb0_cX10_copy_0 di_101 (Nat.zero_lt_succ _) rfl
theorem dX10_copy_20 : decode cX10_copy 20 = .ok (.ifCond .ge 9, 3) := dz1 (k := 20) (m := 3) dzb0_cX10_copy_0 di_231 (Nat.zero_lt_succ _) rfl
theorem dX10_copy_23 : decode cX10_copy 23 = .ok (.aload_n 0, 1) := dz1 (k := 23) (m := 1) dzb0_cX10_copy_0 di_0 (Nat.zero_lt_succ _) rfl
theorem dX10_copy_24 : decode cX10_copy 24 = .ok (.iconst 5, 1) := dz1 (k := 24) (m := 1) dzb0_cX10_copy_0 di_145 (Nat.zero_lt_succ _) rfl
theorem dX10_copy_25 : decode cX10_copy 25 = .ok (.invokevirtual 91, 3) := dz1 (k := 25) (m := 3) dzb0_cX10_copy_0 di_232 (Nat.zero_lt_succ _) rfl
theorem dX10_copy_28 : decode cX10_copy 28 = .ok (.ireturn, 1) := dz1 (k := 28) (m := 1) dzb0_cX10_copy_0 di_13 (Nat.zero_lt_succ _) rfl
theorem dX10_copy_29 : decode cX10_copy 29 = .ok (.aload_n 0, 1) := dz1 (k := 29) (m := 1) dzb0_cX10_copy_0 di_0 (Nat.zero_lt_succ _) rfl
theorem dX10_copy_30 : decode cX10_copy 30 = .ok (.getfield 14, 3) := dz1 (k := 30) (m := 3) dzb0_cX10_copy_0 di_220 (Nat.zero_lt_succ _) rfl
set_option maxRecDepth 100000 in
theorem dzb0_cX10_copy_32 : DzLies cX10_copy (.mk ⟨[0x0e, 0x1b, 0x2e, 0x9b, 0x00, 0x0c, 0x2a, 0xb4, 0x00, 0x0e, 0x1d, 0x2e, 0x9c, 0x00, 0x09, 0x2a, 0x04, 0xb6, 0x00, 0x5b, 0xac, 0x2a, 0x1b, 0x1c, 0x15, 0x05, 0xb6, 0x00, 0x69, 0x99, 0x00, 0x0f]⟩) 32 := dz_lies (m := 32) (Nat.zero_lt_succ _) rfl
theorem dX10_copy_33 : decode cX10_copy 33 = .ok (.iload_n 1, 1) := dz1 (k := 1) (m := 1) dzb0_cX10_copy_32 di_11 (Nat.zero_lt_succ _) rfl
theorem dX10_copy_34 : decode cX10_copy 34 = .ok (.iaload, 1) := dz1 (k := 2) (m := 1) dzb0_cX10_copy_32 di_30 (Nat.zero_lt_succ _) rfl
theorem dX10_copy_35 : decode cX10_copy 35 = .ok (.ifCond .lt 12, 3) := dz1 (k := 3) (m := 3) dzb0_cX10_copy_32 di_240 (Nat.zero_lt_succ _) rfl
theorem dX10_copy_38 : decode cX10_copy 38 = .ok (.aload_n 0, 1) := dz1 (k := 6) (m := 1) dzb0_cX10_copy_32 di_0 (Nat.zero_lt_succ _) rfl
theorem dX10_copy_39 : decode cX10_copy 39 = .ok (.getfield 14, 3) := dz1 (k := 7) (m := 3) dzb0_cX10_copy_32 di_220 (Nat.zero_lt_succ _) rfl
theorem dX10_copy_42 : decode cX10_copy 42 = .ok (.iload_n 3, 1) := dz1 (k := 10) (m := 1) dzb0_cX10_copy_32 di_3 (Nat.zero_lt_succ _) rfl
theorem dX10_copy_43 : decode cX10_copy 43 = .ok (.iaload, 1) := dz1 (k := 11) (m := 1) dzb0_cX10_copy_32 di_30 (Nat.zero_lt_succ _) rfl
theorem dX10_copy_44 : decode cX10_copy 44 = .ok (.ifCond .ge 9, 3) := dz1 (k := 12) (m := 3) dzb0_cX10_copy_32 di_231 (Nat.zero_lt_succ _) rfl
theorem dX10_copy_47 : decode cX10_copy 47 = .ok (.aload_n 0, 1) := dz1 (k := 15) (m := 1) dzb0_cX10_copy_32 di_0 (Nat.zero_lt_succ _) rfl
theorem dX10_copy_48 : decode cX10_copy 48 = .ok (.iconst 1, 1) := dz1 (k := 16) (m := 1) dzb0_cX10_copy_32 di_10 (Nat.zero_lt_succ _) rfl
theorem dX10_copy_49 : decode cX10_copy 49 = .ok (.invokevirtual 91, 3) := dz1 (k := 17) (m := 3) dzb0_cX10_copy_32 di_232 (Nat.zero_lt_succ _) rfl
theorem dX10_copy_52 : decode cX10_copy 52 = .ok (.ireturn, 1) := dz1 (k := 20) (m := 1) dzb0_cX10_copy_32 di_13 (Nat.zero_lt_succ _) rfl
theorem dX10_copy_53 : decode cX10_copy 53 = .ok (.aload_n 0, 1) := dz1 (k := 21) (m := 1) dzb0_cX10_copy_32 di_0 (Nat.zero_lt_succ _) rfl
theorem dX10_copy_54 : decode cX10_copy 54 = .ok (.iload_n 1, 1) := dz1 (k := 22) (m := 1) dzb0_cX10_copy_32 di_11 (Nat.zero_lt_succ _) rfl
theorem dX10_copy_55 : decode cX10_copy 55 = .ok (.iload_n 2, 1) := dz1 (k := 23) (m := 1) dzb0_cX10_copy_32 di_28 (Nat.zero_lt_succ _) rfl
theorem dX10_copy_56 : decode cX10_copy 56 = .ok (.iload 5, 2) := dz1 (k := 24) (m := 2) dzb0_cX10_copy_32 di_101 (Nat.zero_lt_succ _) rfl
theorem dX10_copy_58 : decode cX10_copy 58 = .ok (.invokevirtual 105, 3) := dz1 (k := 26) (m := 3) dzb0_cX10_copy_32 di_241 (Nat.zero_lt_succ _) rfl
theorem dX10_copy_61 : decode cX10_copy 61 = .ok (.ifCond .eq 15, 3) := dz1 (k := 29) (m := 3) dzb0_cX10_copy_32 di_242 (Nat.zero_lt_succ _) rfl
set_option maxRecDepth 100000 in
theorem dzb0_cX10_copy_64 : DzLies cX10_copy (.mk ⟨[0x2a, 0x1d, 0x15, 0x04, 0x15, 0x05, 0xb6, 0x00, 0x69, 0x9a, 0x00, 0x09, 0x2a, 0x05, 0xb6, 0x00, 0x5b, 0xac, 0x2a, 0xb4, 0x00, 0x0b, 0x1b, 0x32, 0x1c, 0x2a, 0xb4, 0x00, 0x0b, 0x1d, 0x32, 0x15, 0x04]⟩) 64 := dz_lies (m := 33) (Nat.zero_lt_succ _) rfl
theorem dX10_copy_64 : decode cX10_copy 64 = .ok (.aload_n 0, 1) := dz1 (k := 0) (m := 1) dzb0_cX10_copy_64 di_0 (Nat.zero_lt_succ _) rfl
theorem dX10_copy_65 : decode cX10_copy 65 = .ok (.iload_n 3, 1) := dz1 (k := 1) (m := 1) dzb0_cX10_copy_64 di_3 (Nat.zero_lt_succ _) rfl
theorem dX10_copy_66 : decode cX10_copy 66 = .ok (.iload 4, 2) := dz1 (k := 2) (m := 2) dzb0_cX10_copy_64 di_52 (Nat.zero_lt_succ _) rfl
theorem dX10_copy_68 : decode cX10_copy 68 = .ok (.iload 5, 2) := dz1 (k := 4) (m := 2) dzb0_cX10_copy_64 di_101 (Nat.zero_lt_succ _) rfl
theorem dX10_copy_70 : decode cX10_copy 70 = .ok (.invokevirtual 105, 3) := dz1 (k := 6) (m := 3) dzb0_cX10_copy_64 di_241 (Nat.zero_lt_succ _) rfl
theorem dX10_copy_73 : decode cX10_copy 73 = .ok (.ifCond .ne 9, 3) := dz1 (k := 9) (m := 3) dzb0_cX10_copy_64 di_243 (Nat.zero_lt_succ _) rfl
theorem dX10_copy_76 : decode cX10_copy 76 = .ok (.aload_n 0, 1) := dz1 (k := 12) (m := 1) dzb0_cX10_copy_64 di_0 (Nat.zero_lt_succ _) rfl
theorem dX10_copy_77 : decode cX10_copy 77 = .ok (.iconst 2, 1) := dz1 (k := 13) (m := 1) dzb0_cX10_copy_64 di_6 (Nat.zero_lt_succ _) rfl
theorem dX10_copy_78 : decode cX10_copy 78 = .ok (.invokevirtual 91, 3) := dz1 (k := 14) (m := 3) dzb0_cX10_copy_64 di_232 (Nat.zero_lt_succ _) rfl
theorem dX10_copy_81 : decode cX10_copy 81 = .ok (.ireturn, 1) := dz1 (k := 17) (m := 1) dzb0_cX10_copy_64 di_13 (Nat.zero_lt_succ _) rfl
theorem dX10_copy_82 : decode cX10_copy 82 = .ok (.aload_n 0, 1) := dz1 (k := 18) (m := 1) dzb0_cX10_copy_64 di_0 (Nat.zero_lt_succ _) rfl
theorem dX10_copy_83 : decode cX10_copy 83 = .ok (.getfield 11, 3) := dz1 (k := 19) (m := 3) dzb0_cX10_copy_64 di_233 (Nat.zero_lt_succ _) rfl
theorem dX10_copy_86 : decode cX10_copy 86 = .ok (.iload_n 1, 1) := dz1 (k := 22) (m := 1) dzb0_cX10_copy_64 di_11 (Nat.zero_lt_succ _) rfl
theorem dX10_copy_87 : decode cX10_copy 87 = .ok (.aaload, 1) := dz1 (k := 23) (m := 1) dzb0_cX10_copy_64 di_130 (Nat.zero_lt_succ _) rfl
theorem dX10_copy_88 : decode cX10_copy 88 = .ok (.iload_n 2, 1) := dz1 (k := 24) (m := 1) dzb0_cX10_copy_64 di_28 (Nat.zero_lt_succ _) rfl
theorem dX10_copy_89 : decode cX10_copy 89 = .ok (.aload_n 0, 1) := dz1 (k := 25) (m := 1) dzb0_cX10_copy_64 di_0 (Nat.zero_lt_succ _) rfl
theorem dX10_copy_90 : decode cX10_copy 90 = .ok (.getfield 11, 3) := dz1 (k := 26) (m := 3) dzb0_cX10_copy_64 di_233 (Nat.zero_lt_succ _) rfl
theorem dX10_copy_93 : decode cX10_copy 93 = .ok (.iload_n 3, 1) := dz1 (k := 29) (m := 1) dzb0_cX10_copy_64 di_3 (Nat.zero_lt_succ _) rfl
theorem dX10_copy_94 : decode cX10_copy 94 = .ok (.aaload, 1) := dz1 (k := 30) (m := 1) dzb0_cX10_copy_64 di_130 (Nat.zero_lt_succ _) rfl
theorem dX10_copy_95 : decode cX10_copy 95 = .ok (.iload 4, 2) := dz1 (k := 31) (m := 2) dzb0_cX10_copy_64 di_52 (Nat.zero_lt_succ _) rfl
set_option maxRecDepth 100000 in
theorem dzb0_cX10_copy_96 : DzLies cX10_copy (.mk ⟨[0x04, 0x15, 0x05, 0xb8, 0x00, 0x6d, 0x04, 0xac]⟩) 96 := dz_lies (m := 8) (Nat.zero_lt_succ _) rfl
theorem dX10_copy_97 : decode cX10_copy 97 = .ok (.iload 5, 2) := dz1 (k := 1) (m := 2) dzb0_cX10_copy_96 di_101 (Nat.zero_lt_succ _) rfl
theorem dX10_copy_99 : decode cX10_copy 99 = .ok (.invokestatic 109, 3) := dz1 (k := 3) (m := 3) dzb0_cX10_copy_96 di_244 (Nat.zero_lt_succ _) rfl
theorem dX10_copy_102 : decode cX10_copy 102 = .ok (.iconst 1, 1) := dz1 (k := 6) (m := 1) dzb0_cX10_copy_96 di_10 (Nat.zero_lt_succ _) rfl
theorem dX10_copy_103 : decode cX10_copy 103 = .ok (.ireturn, 1) := dz1 (k := 7) (m := 1) dzb0_cX10_copy_96 di_13 (Nat.zero_lt_succ _) rfl
set_option maxRecDepth 100000 in
theorem dzb0_cX10_mean_0 : DzLies cX10_mean (.mk ⟨[0x2a, 0x1b, 0xb6, 0x00, 0x66, 0x3d, 0x1c, 0x99, 0x00, 0x05, 0x1c, 0xac, 0x2a, 0xb4, 0x00, 0x0e, 0x1b, 0x2e, 0x3e, 0x1d, 0x9d, 0x00, 0x09, 0x2a, 0x07, 0xb6, 0x00, 0x5b, 0xac, 0x09, 0x37, 0x04]⟩) 0 := dz_lies (m := 32) (Nat.zero_lt_succ _) rfl
theorem dX10_mean_0 : decode cX10_mean 0 = .ok (.aload_n 0, 1) := dz1 (k := 0) (m := 1) dzb0_cX10_mean_0 di_0 (Nat.zero_lt_succ _) rfl
theorem dX10_mean_1 : decode cX10_mean 1 = .ok (.iload_n 1, 1) := dz1 (k := 1) (m := 1) dzb0_cX10_mean_0 di_11 (Nat.zero_lt_succ _) rfl
theorem dX10_mean_2 : decode cX10_mean 2 = .ok (.invokevirtual 102, 3) := dz1 (k := 2) (m := 3) dzb0_cX10_mean_0 di_237 (Nat.zero_lt_succ _) rfl
theorem dX10_mean_5 : decode cX10_mean 5 = .ok (.istore_n 2, 1) := dz1 (k := 5) (m := 1) dzb0_cX10_mean_0 di_27 (Nat.zero_lt_succ _) rfl
theorem dX10_mean_6 : decode cX10_mean 6 = .ok (.iload_n 2, 1) := dz1 (k := 6) (m := 1) dzb0_cX10_mean_0 di_28 (Nat.zero_lt_succ _) rfl
theorem dX10_mean_7 : decode cX10_mean 7 = .ok (.ifCond .eq 5, 3) := dz1 (k := 7) (m := 3) dzb0_cX10_mean_0 di_236 (Nat.zero_lt_succ _) rfl
theorem dX10_mean_10 : decode cX10_mean 10 = .ok (.iload_n 2, 1) := dz1 (k := 10) (m := 1) dzb0_cX10_mean_0 di_28 (Nat.zero_lt_succ _) rfl
theorem dX10_mean_11 : decode cX10_mean 11 = .ok (.ireturn, 1) := dz1 (k := 11) (m := 1) dzb0_cX10_mean_0 di_13 (Nat.zero_lt_succ _) rfl
theorem dX10_mean_12 : decode cX10_mean 12 = .ok (.aload_n 0, 1) := dz1 (k := 12) (m := 1) dzb0_cX10_mean_0 di_0 (Nat.zero_lt_succ _) rfl
theorem dX10_mean_13 : decode cX10_mean 13 = .ok (.getfield 14, 3) := dz1 (k := 13) (m := 3) dzb0_cX10_mean_0 di_220 (Nat.zero_lt_succ _) rfl
theorem dX10_mean_16 : decode cX10_mean 16 = .ok (.iload_n 1, 1) := dz1 (k := 16) (m := 1) dzb0_cX10_mean_0 di_11 (Nat.zero_lt_succ _) rfl
theorem dX10_mean_17 : decode cX10_mean 17 = .ok (.iaload, 1) := dz1 (k := 17) (m := 1) dzb0_cX10_mean_0 di_30 (Nat.zero_lt_succ _) rfl
theorem dX10_mean_18 : decode cX10_mean 18 = .ok (.istore_n 3, 1) := dz1 (k := 18) (m := 1) dzb0_cX10_mean_0 di_50 (Nat.zero_lt_succ _) rfl
theorem dX10_mean_19 : decode cX10_mean 19 = .ok (.iload_n 3, 1) := dz1 (k := 19) (m := 1) dzb0_cX10_mean_0 di_3 (Nat.zero_lt_succ _) rfl
theorem dX10_mean_20 : decode cX10_mean 20 = .ok (.ifCond .gt 9, 3) := dz1 (k := 20) (m := 3) dzb0_cX10_mean_0 di_245 (Nat.zero_lt_succ _) rfl
theorem dX10_mean_23 : decode cX10_mean 23 = .ok (.aload_n 0, 1) := dz1 (k := 23) (m := 1) dzb0_cX10_mean_0 di_0 (Nat.zero_lt_succ _) rfl
theorem dX10_mean_24 : decode cX10_mean 24 = .ok (.iconst 4, 1) := dz1 (k := 24) (m := 1) dzb0_cX10_mean_0 di_33 (Nat.zero_lt_succ _) rfl
theorem dX10_mean_25 : decode cX10_mean 25 = .ok (.invokevirtual 91, 3) := dz1 (k := 25) (m := 3) dzb0_cX10_mean_0 di_232 (Nat.zero_lt_succ _) rfl
theorem dX10_mean_28 : decode cX10_mean 28 = .ok (.ireturn, 1) := dz1 (k := 28) (m := 1) dzb0_cX10_mean_0 di_13 (Nat.zero_lt_succ _) rfl
theorem dX10_mean_29 : decode cX10_mean 29 = .ok (.lconst 0, 1) := dz1 (k := 29) (m := 1) dzb0_cX10_mean_0 di_246 (Nat.zero_lt_succ _) rfl
theorem dX10_mean_30 : decode cX10_mean 30 = .ok (.lstore 4, 2) := dz1 (k := 30) (m := 2) dzb0_cX10_mean_0 di_247 (Nat.zero_lt_succ _) rfl
set_option maxRecDepth 100000 in
theorem dzb0_cX10_mean_32 : DzLies cX10_mean (.mk ⟨[0x03, 0x36, 0x06, 0x15, 0x06, 0x1d, 0xa2, 0x00, 0x18, 0x16, 0x04, 0x2a, 0xb4, 0x00, 0x0b, 0x1b, 0x32, 0x15, 0x06, 0x2e, 0x85, 0x61, 0x37, 0x04, 0x84, 0x06, 0x01, 0xa7, 0xff, 0xe8, 0x2a, 0x16, 0x04]⟩) 32 := dz_lies (m := 33) (Nat.zero_lt_succ _) rfl
theorem dX10_mean_32 : decode cX10_mean 32 = .ok (.iconst 0, 1) := dz1 (k := 0) (m := 1) dzb0_cX10_mean_32 di_8 (Nat.zero_lt_succ _) rfl
theorem dX10_mean_33 : decode cX10_mean 33 = .ok (.istore 6, 2) := dz1 (k := 1) (m := 2) dzb0_cX10_mean_32 di_114 (Nat.zero_lt_succ _) rfl
theorem dX10_mean_35 : decode cX10_mean 35 = .ok (.iload 6, 2) := dz1 (k := 3) (m := 2) dzb0_cX10_mean_32 di_115 (Nat.zero_lt_succ _) rfl
theorem dX10_mean_37 : decode cX10_mean 37 = .ok (.iload_n 3, 1) := dz1 (k := 5) (m := 1) dzb0_cX10_mean_32 di_3 (Nat.zero_lt_succ _) rfl
theorem dX10_mean_38 : decode cX10_mean 38 = .ok (.if_icmp .ge 24, 3) := dz1 (k := 6) (m := 3) dzb0_cX10_mean_32 di_248 (Nat.zero_lt_succ _) rfl
theorem dX10_mean_41 : decode cX10_mean 41 = .ok (.lload 4, 2) := dz1 (k := 9) (m := 2) dzb0_cX10_mean_32 di_249 (Nat.zero_lt_succ _) rfl
theorem dX10_mean_43 : decode cX10_mean 43 = .ok (.aload_n 0, 1) := dz1 (k := 11) (m := 1) dzb0_cX10_mean_32 di_0 (Nat.zero_lt_succ _) rfl
theorem dX10_mean_44 : decode cX10_mean 44 = .ok (.getfield 11, 3) := dz1 (k := 12) (m := 3) dzb0_cX10_mean_32 di_233 (Nat.zero_lt_succ _) rfl
theorem dX10_mean_47 : decode cX10_mean 47 = .ok (.iload_n 1, 1) := dz1 (k := 15) (m := 1) dzb0_cX10_mean_32 di_11 (Nat.zero_lt_succ _) rfl
theorem dX10_mean_48 : decode cX10_mean 48 = .ok (.aaload, 1) := dz1 (k := 16) (m := 1) dzb0_cX10_mean_32 di_130 (Nat.zero_lt_succ _) rfl
theorem dX10_mean_49 : decode cX10_mean 49 = .ok (.iload 6, 2) := dz1 (k := 17) (m := 2) dzb0_cX10_mean_32 di_115 (Nat.zero_lt_succ _) rfl
theorem dX10_mean_51 : decode cX10_mean 51 = .ok (.iaload, 1) := dz1 (k := 19) (m := 1) dzb0_cX10_mean_32 di_30 (Nat.zero_lt_succ _) rfl
theorem dX10_mean_52 : decode cX10_mean 52 = .ok (.i2l, 1) := dz1 (k := 20) (m := 1) dzb0_cX10_mean_32 di_250 (Nat.zero_lt_succ _) rfl
theorem dX10_mean_53 : decode cX10_mean 53 = .ok (.ladd, 1) := dz1 (k := 21) (m := 1) dzb0_cX10_mean_32 di_251 (Nat.zero_lt_succ _) rfl
theorem dX10_mean_54 : decode cX10_mean 54 = .ok (.lstore 4, 2) := dz1 (k := 22) (m := 2) dzb0_cX10_mean_32 di_247 (Nat.zero_lt_succ _) rfl
theorem dX10_mean_56 : decode cX10_mean 56 = .ok (.iinc 6 1, 3) := dz1 (k := 24) (m := 3) dzb0_cX10_mean_32 di_252 (Nat.zero_lt_succ _) rfl
theorem dX10_mean_59 : decode cX10_mean 59 = .ok (.goto (-24), 3) := dz1 (k := 27) (m := 3) dzb0_cX10_mean_32 di_253 (Nat.zero_lt_succ _) rfl
theorem dX10_mean_62 : decode cX10_mean 62 = .ok (.aload_n 0, 1) := dz1 (k := 30) (m := 1) dzb0_cX10_mean_32 di_0 (Nat.zero_lt_succ _) rfl
theorem dX10_mean_63 : decode cX10_mean 63 = .ok (.lload 4, 2) := dz1 (k := 31) (m := 2) dzb0_cX10_mean_32 di_249 (Nat.zero_lt_succ _) rfl
set_option maxRecDepth 100000 in
theorem dzb0_cX10_mean_64 : DzLies cX10_mean (.mk ⟨[0x04, 0x1d, 0x85, 0x6d, 0x88, 0xb5, 0x00, 0x63, 0x04, 0xac]⟩) 64 := dz_lies (m := 10) (Nat.zero_lt_succ _) rfl
theorem dX10_mean_65 : decode cX10_mean 65 = .ok (.iload_n 3, 1) := dz1 (k := 1) (m := 1) dzb0_cX10_mean_64 di_3 (Nat.zero_lt_succ _) rfl
theorem dX10_mean_66 : decode cX10_mean 66 = .ok (.i2l, 1) := dz1 (k := 2) (m := 1) dzb0_cX10_mean_64 di_250 (Nat.zero_lt_succ _) rfl
theorem dX10_mean_67 : decode cX10_mean 67 = .ok (.ldiv, 1) := dz1 (k := 3) (m := 1) dzb0_cX10_mean_64 di_254 (Nat.zero_lt_succ _) rfl
theorem dX10_mean_68 : decode cX10_mean 68 = .ok (.l2i, 1) := dz1 (k := 4) (m := 1) dzb0_cX10_mean_64 di_255 (Nat.zero_lt_succ _) rfl
theorem dX10_mean_69 : decode cX10_mean 69 = .ok (.putfield 99, 3) := dz1 (k := 5) (m := 3) dzb0_cX10_mean_64 di_235 (Nat.zero_lt_succ _) rfl
theorem dX10_mean_72 : decode cX10_mean 72 = .ok (.iconst 1, 1) := dz1 (k := 8) (m := 1) dzb0_cX10_mean_64 di_10 (Nat.zero_lt_succ _) rfl
theorem dX10_mean_73 : decode cX10_mean 73 = .ok (.ireturn, 1) := dz1 (k := 9) (m := 1) dzb0_cX10_mean_64 di_13 (Nat.zero_lt_succ _) rfl
set_option maxRecDepth 100000 in
theorem dzb0_cX10_text_0 : DzLies cX10_text (.mk ⟨[0x2a, 0x1b, 0xb6, 0x00, 0x73, 0x99, 0x00, 0x09, 0x1c, 0x10, 0x3c, 0xa4, 0x00, 0x05, 0x02, 0xac, 0x1c, 0x9c, 0x00, 0x09, 0x2a, 0x08, 0xb6, 0x00, 0x5b, 0xac, 0x2a, 0xb4, 0x00, 0x14, 0x1b, 0x32]⟩) 0 := dz_lies (m := 32) (Nat.zero_lt_succ _) rfl
theorem dX10_text_0 : decode cX10_text 0 = .ok (.aload_n 0, 1) := dz1 (k := 0) (m := 1) dzb0_cX10_text_0 di_0 (Nat.zero_lt_succ _) rfl
theorem dX10_text_1 : decode cX10_text 1 = .ok (.iload_n 1, 1) := dz1 (k := 1) (m := 1) dzb0_cX10_text_0 di_11 (Nat.zero_lt_succ _) rfl
theorem dX10_text_2 : decode cX10_text 2 = .ok (.invokevirtual 115, 3) := dz1 (k := 2) (m := 3) dzb0_cX10_text_0 di_256 (Nat.zero_lt_succ _) rfl
theorem dX10_text_5 : decode cX10_text 5 = .ok (.ifCond .eq 9, 3) := dz1 (k := 5) (m := 3) dzb0_cX10_text_0 di_229 (Nat.zero_lt_succ _) rfl
theorem dX10_text_8 : decode cX10_text 8 = .ok (.iload_n 2, 1) := dz1 (k := 8) (m := 1) dzb0_cX10_text_0 di_28 (Nat.zero_lt_succ _) rfl
theorem dX10_text_9 : decode cX10_text 9 = .ok (.bipush 60, 2) := dz1 (k := 9) (m := 2) dzb0_cX10_text_0 di_195 (Nat.zero_lt_succ _) rfl
theorem dX10_text_11 : decode cX10_text 11 = .ok (.if_icmp .le 5, 3) := dz1 (k := 11) (m := 3) dzb0_cX10_text_0 di_230 (Nat.zero_lt_succ _) rfl
theorem dX10_text_14 : decode cX10_text 14 = .ok (.iconst (-1), 1) := dz1 (k := 14) (m := 1) dzb0_cX10_text_0 di_65 (Nat.zero_lt_succ _) rfl
theorem dX10_text_15 : decode cX10_text 15 = .ok (.ireturn, 1) := dz1 (k := 15) (m := 1) dzb0_cX10_text_0 di_13 (Nat.zero_lt_succ _) rfl
theorem dX10_text_16 : decode cX10_text 16 = .ok (.iload_n 2, 1) := dz1 (k := 16) (m := 1) dzb0_cX10_text_0 di_28 (Nat.zero_lt_succ _) rfl
theorem dX10_text_17 : decode cX10_text 17 = .ok (.ifCond .ge 9, 3) := dz1 (k := 17) (m := 3) dzb0_cX10_text_0 di_231 (Nat.zero_lt_succ _) rfl
theorem dX10_text_20 : decode cX10_text 20 = .ok (.aload_n 0, 1) := dz1 (k := 20) (m := 1) dzb0_cX10_text_0 di_0 (Nat.zero_lt_succ _) rfl
theorem dX10_text_21 : decode cX10_text 21 = .ok (.iconst 5, 1) := dz1 (k := 21) (m := 1) dzb0_cX10_text_0 di_145 (Nat.zero_lt_succ _) rfl
theorem dX10_text_22 : decode cX10_text 22 = .ok (.invokevirtual 91, 3) := dz1 (k := 22) (m := 3) dzb0_cX10_text_0 di_232 (Nat.zero_lt_succ _) rfl
theorem dX10_text_25 : decode cX10_text 25 = .ok (.ireturn, 1) := dz1 (k := 25) (m := 1) dzb0_cX10_text_0 di_13 (Nat.zero_lt_succ _) rfl
theorem dX10_text_26 : decode cX10_text 26 = .ok (.aload_n 0, 1) := dz1 (k := 26) (m := 1) dzb0_cX10_text_0 di_0 (Nat.zero_lt_succ _) rfl
theorem dX10_text_27 : decode cX10_text 27 = .ok (.getfield 20, 3) := dz1 (k := 27) (m := 3) dzb0_cX10_text_0 di_97 (Nat.zero_lt_succ _) rfl
theorem dX10_text_30 : decode cX10_text 30 = .ok (.iload_n 1, 1) := dz1 (k := 30) (m := 1) dzb0_cX10_text_0 di_11 (Nat.zero_lt_succ _) rfl
theorem dX10_text_31 : decode cX10_text 31 = .ok (.aaload, 1) := dz1 (k := 31) (m := 1) dzb0_cX10_text_0 di_130 (Nat.zero_lt_succ _) rfl
set_option maxRecDepth 100000 in
theorem dzb0_cX10_text_32 : DzLies cX10_text (.mk ⟨[0x10, 0x20, 0xb8, 0x00, 0x76, 0x2a, 0xb4, 0x00, 0x17, 0x1b, 0x1c, 0x4f, 0x1c, 0xac]⟩) 32 := dz_lies (m := 14) (Nat.zero_lt_succ _) rfl
theorem dX10_text_32 : decode cX10_text 32 = .ok (.bipush 32, 2) := dz1 (k := 0) (m := 2) dzb0_cX10_text_32 di_92 (Nat.zero_lt_succ _) rfl
theorem dX10_text_34 : decode cX10_text 34 = .ok (.invokestatic 118, 3) := dz1 (k := 2) (m := 3) dzb0_cX10_text_32 di_257 (Nat.zero_lt_succ _) rfl
theorem dX10_text_37 : decode cX10_text 37 = .ok (.aload_n 0, 1) := dz1 (k := 5) (m := 1) dzb0_cX10_text_32 di_0 (Nat.zero_lt_succ _) rfl
theorem dX10_text_38 : decode cX10_text 38 = .ok (.getfield 23, 3) := dz1 (k := 6) (m := 3) dzb0_cX10_text_32 di_222 (Nat.zero_lt_succ _) rfl
theorem dX10_text_41 : decode cX10_text 41 = .ok (.iload_n 1, 1) := dz1 (k := 9) (m := 1) dzb0_cX10_text_32 di_11 (Nat.zero_lt_succ _) rfl
theorem dX10_text_42 : decode cX10_text 42 = .ok (.iload_n 2, 1) := dz1 (k := 10) (m := 1) dzb0_cX10_text_32 di_28 (Nat.zero_lt_succ _) rfl
theorem dX10_text_43 : decode cX10_text 43 = .ok (.iastore, 1) := dz1 (k := 11) (m := 1) dzb0_cX10_text_32 di_22 (Nat.zero_lt_succ _) rfl
theorem dX10_text_44 : decode cX10_text 44 = .ok (.iload_n 2, 1) := dz1 (k := 12) (m := 1) dzb0_cX10_text_32 di_28 (Nat.zero_lt_succ _) rfl
theorem dX10_text_45 : decode cX10_text 45 = .ok (.ireturn, 1) := dz1 (k := 13) (m := 1) dzb0_cX10_text_32 di_13 (Nat.zero_lt_succ _) rfl
set_option maxRecDepth 100000 in
theorem dzb0_cX10_put_0 : DzLies cX10_put (.mk ⟨[0x2a, 0x1b, 0xb6, 0x00, 0x79, 0x36, 0x04, 0x15, 0x04, 0x99, 0x00, 0x06, 0x15, 0x04, 0xac, 0x1c, 0x9b, 0x00, 0x0d, 0x1c, 0x2a, 0xb4, 0x00, 0x17, 0x1b, 0x2e, 0xa1, 0x00, 0x09, 0x2a, 0x05, 0xb6, 0x00, 0x5b]⟩) 0 := dz_lies (m := 34) (Nat.zero_lt_succ _) rfl
theorem dX10_put_0 : decode cX10_put 0 = .ok (.aload_n 0, 1) := dz1 (k := 0) (m := 1) dzb0_cX10_put_0 di_0 (Nat.zero_lt_succ _) rfl
theorem dX10_put_1 : decode cX10_put 1 = .ok (.iload_n 1, 1) := dz1 (k := 1) (m := 1) dzb0_cX10_put_0 di_11 (Nat.zero_lt_succ _) rfl
theorem dX10_put_2 : decode cX10_put 2 = .ok (.invokevirtual 121, 3) := dz1 (k := 2) (m := 3) dzb0_cX10_put_0 di_258 (Nat.zero_lt_succ _) rfl
theorem dX10_put_5 : decode cX10_put 5 = .ok (.istore 4, 2) := dz1 (k := 5) (m := 2) dzb0_cX10_put_0 di_51 (Nat.zero_lt_succ _) rfl
theorem dX10_put_7 : decode cX10_put 7 = .ok (.iload 4, 2) := dz1 (k := 7) (m := 2) dzb0_cX10_put_0 di_52 (Nat.zero_lt_succ _) rfl
theorem dX10_put_9 : decode cX10_put 9 = .ok (.ifCond .eq 6, 3) := dz1 (k := 9) (m := 3) dzb0_cX10_put_0 di_171 (Nat.zero_lt_succ _) rfl
theorem dX10_put_12 : decode cX10_put 12 = .ok (.iload 4, 2) := dz1 (k := 12) (m := 2) dzb0_cX10_put_0 di_52 (Nat.zero_lt_succ _) rfl
theorem dX10_put_14 : decode cX10_put 14 = .ok (.ireturn, 1) := dz1 (k := 14) (m := 1) dzb0_cX10_put_0 di_13 (Nat.zero_lt_succ _) rfl
theorem dX10_put_15 : decode cX10_put 15 = .ok (.iload_n 2, 1) := dz1 (k := 15) (m := 1) dzb0_cX10_put_0 di_28 (Nat.zero_lt_succ _) rfl
theorem dX10_put_16 : decode cX10_put 16 = .ok (.ifCond .lt 13, 3) := dz1 (k := 16) (m := 3) dzb0_cX10_put_0 di_259 (Nat.zero_lt_succ _) rfl
theorem dX10_put_19 : decode cX10_put 19 = .ok (.iload_n 2, 1) := dz1 (k := 19) (m := 1) dzb0_cX10_put_0 di_28 (Nat.zero_lt_succ _) rfl
theorem dX10_put_20 : decode cX10_put 20 = .ok (.aload_n 0, 1) := dz1 (k := 20) (m := 1) dzb0_cX10_put_0 di_0 (Nat.zero_lt_succ _) rfl
theorem dX10_put_21 : decode cX10_put 21 = .ok (.getfield 23, 3) := dz1 (k := 21) (m := 3) dzb0_cX10_put_0 di_222 (Nat.zero_lt_succ _) rfl
theorem dX10_put_24 : decode cX10_put 24 = .ok (.iload_n 1, 1) := dz1 (k := 24) (m := 1) dzb0_cX10_put_0 di_11 (Nat.zero_lt_succ _) rfl
theorem dX10_put_25 : decode cX10_put 25 = .ok (.iaload, 1) := dz1 (k := 25) (m := 1) dzb0_cX10_put_0 di_30 (Nat.zero_lt_succ _) rfl
theorem dX10_put_26 : decode cX10_put 26 = .ok (.if_icmp .lt 9, 3) := dz1 (k := 26) (m := 3) dzb0_cX10_put_0 di_260 (Nat.zero_lt_succ _) rfl
theorem dX10_put_29 : decode cX10_put 29 = .ok (.aload_n 0, 1) := dz1 (k := 29) (m := 1) dzb0_cX10_put_0 di_0 (Nat.zero_lt_succ _) rfl
theorem dX10_put_30 : decode cX10_put 30 = .ok (.iconst 2, 1) := dz1 (k := 30) (m := 1) dzb0_cX10_put_0 di_6 (Nat.zero_lt_succ _) rfl
theorem dX10_put_31 : decode cX10_put 31 = .ok (.invokevirtual 91, 3) := dz1 (k := 31) (m := 3) dzb0_cX10_put_0 di_232 (Nat.zero_lt_succ _) rfl
set_option maxRecDepth 100000 in
theorem dzb0_cX10_put_32 : DzLies cX10_put (.mk ⟨[0x00, 0x5b, 0xac, 0x2a, 0xb4, 0x00, 0x14, 0x1b, 0x32, 0x1c, 0x33, 0x36, 0x05, 0x2a, 0xb4, 0x00, 0x14, 0x1b, 0x32, 0x1c, 0x1d, 0x91, 0x54, 0x15, 0x05, 0x11, 0x03, 0xe8, 0x60, 0xac]⟩) 32 := dz_lies (m := 30) (Nat.zero_lt_succ _) rfl
theorem dX10_put_34 : decode cX10_put 34 = .ok (.ireturn, 1) := dz1 (k := 2) (m := 1) dzb0_cX10_put_32 di_13 (Nat.zero_lt_succ _) rfl
theorem dX10_put_35 : decode cX10_put 35 = .ok (.aload_n 0, 1) := dz1 (k := 3) (m := 1) dzb0_cX10_put_32 di_0 (Nat.zero_lt_succ _) rfl
theorem dX10_put_36 : decode cX10_put 36 = .ok (.getfield 20, 3) := dz1 (k := 4) (m := 3) dzb0_cX10_put_32 di_97 (Nat.zero_lt_succ _) rfl
theorem dX10_put_39 : decode cX10_put 39 = .ok (.iload_n 1, 1) := dz1 (k := 7) (m := 1) dzb0_cX10_put_32 di_11 (Nat.zero_lt_succ _) rfl
theorem dX10_put_40 : decode cX10_put 40 = .ok (.aaload, 1) := dz1 (k := 8) (m := 1) dzb0_cX10_put_32 di_130 (Nat.zero_lt_succ _) rfl
theorem dX10_put_41 : decode cX10_put 41 = .ok (.iload_n 2, 1) := dz1 (k := 9) (m := 1) dzb0_cX10_put_32 di_28 (Nat.zero_lt_succ _) rfl
theorem dX10_put_42 : decode cX10_put 42 = .ok (.baload, 1) := dz1 (k := 10) (m := 1) dzb0_cX10_put_32 di_91 (Nat.zero_lt_succ _) rfl
theorem dX10_put_43 : decode cX10_put 43 = .ok (.istore 5, 2) := dz1 (k := 11) (m := 2) dzb0_cX10_put_32 di_100 (Nat.zero_lt_succ _) rfl
theorem dX10_put_45 : decode cX10_put 45 = .ok (.aload_n 0, 1) := dz1 (k := 13) (m := 1) dzb0_cX10_put_32 di_0 (Nat.zero_lt_succ _) rfl
theorem dX10_put_46 : decode cX10_put 46 = .ok (.getfield 20, 3) := dz1 (k := 14) (m := 3) dzb0_cX10_put_32 di_97 (Nat.zero_lt_succ _) rfl
theorem dX10_put_49 : decode cX10_put 49 = .ok (.iload_n 1, 1) := dz1 (k := 17) (m := 1) dzb0_cX10_put_32 di_11 (Nat.zero_lt_succ _) rfl
theorem dX10_put_50 : decode cX10_put 50 = .ok (.aaload, 1) := dz1 (k := 18) (m := 1) dzb0_cX10_put_32 di_130 (Nat.zero_lt_succ _) rfl
theorem dX10_put_51 : decode cX10_put 51 = .ok (.iload_n 2, 1) := dz1 (k := 19) (m := 1) dzb0_cX10_put_32 di_28 (Nat.zero_lt_succ _) rfl
theorem dX10_put_52 : decode cX10_put 52 = .ok (.iload_n 3, 1) := dz1 (k := 20) (m := 1) dzb0_cX10_put_32 di_3 (Nat.zero_lt_succ _) rfl
theorem dX10_put_53 : decode cX10_put 53 = .ok (.i2b, 1) := dz1 (k := 21) (m := 1) dzb0_cX10_put_32 di_261 (Nat.zero_lt_succ _) rfl
theorem dX10_put_54 : decode cX10_put 54 = .ok (.bastore, 1) := dz1 (k := 22) (m := 1) dzb0_cX10_put_32 di_191 (Nat.zero_lt_succ _) rfl
theorem dX10_put_55 : decode cX10_put 55 = .ok (.iload 5, 2) := dz1 (k := 23) (m := 2) dzb0_cX10_put_32 di_101 (Nat.zero_lt_succ _) rfl
theorem dX10_put_57 : decode cX10_put 57 = .ok (.sipush 1000, 3) := dz1 (k := 25) (m := 3) dzb0_cX10_put_32 di_262 (Nat.zero_lt_succ _) rfl
theorem dX10_put_60 : decode cX10_put 60 = .ok (.iadd, 1) := dz1 (k := 28) (m := 1) dzb0_cX10_put_32 di_24 (Nat.zero_lt_succ _) rfl
theorem dX10_put_61 : decode cX10_put 61 = .ok (.ireturn, 1) := dz1 (k := 29) (m := 1) dzb0_cX10_put_32 di_13 (Nat.zero_lt_succ _) rfl
set_option maxRecDepth 100000 in
theorem dzb0_cX10_fault_0 : DzLies cX10_fault (.mk ⟨[0x2a, 0x1b, 0xb6, 0x00, 0x79, 0x3d, 0x1c, 0x99, 0x00, 0x05, 0x1c, 0xac, 0x2a, 0xb4, 0x00, 0x1d, 0x2a, 0xb4, 0x00, 0x14, 0x1b, 0x32, 0x2a, 0xb4, 0x00, 0x17, 0x1b, 0x2e, 0xb6, 0x00, 0x7c, 0xac]⟩) 0 := dz_lies (m := 32) (Nat.zero_lt_succ _) rfl
theorem dX10_fault_0 : decode cX10_fault 0 = .ok (.aload_n 0, 1) := dz1 (k := 0) (m := 1) dzb0_cX10_fault_0 di_0 (Nat.zero_lt_succ _) rfl
theorem dX10_fault_1 : decode cX10_fault 1 = .ok (.iload_n 1, 1) := dz1 (k := 1) (m := 1) dzb0_cX10_fault_0 di_11 (Nat.zero_lt_succ _) rfl
theorem dX10_fault_2 : decode cX10_fault 2 = .ok (.invokevirtual 121, 3) := dz1 (k := 2) (m := 3) dzb0_cX10_fault_0 di_258 (Nat.zero_lt_succ _) rfl
theorem dX10_fault_5 : decode cX10_fault 5 = .ok (.istore_n 2, 1) := dz1 (k := 5) (m := 1) dzb0_cX10_fault_0 di_27 (Nat.zero_lt_succ _) rfl
theorem dX10_fault_6 : decode cX10_fault 6 = .ok (.iload_n 2, 1) := dz1 (k := 6) (m := 1) dzb0_cX10_fault_0 di_28 (Nat.zero_lt_succ _) rfl
theorem dX10_fault_7 : decode cX10_fault 7 = .ok (.ifCond .eq 5, 3) := dz1 (k := 7) (m := 3) dzb0_cX10_fault_0 di_236 (Nat.zero_lt_succ _) rfl
theorem dX10_fault_10 : decode cX10_fault 10 = .ok (.iload_n 2, 1) := dz1 (k := 10) (m := 1) dzb0_cX10_fault_0 di_28 (Nat.zero_lt_succ _) rfl
theorem dX10_fault_11 : decode cX10_fault 11 = .ok (.ireturn, 1) := dz1 (k := 11) (m := 1) dzb0_cX10_fault_0 di_13 (Nat.zero_lt_succ _) rfl
theorem dX10_fault_12 : decode cX10_fault 12 = .ok (.aload_n 0, 1) := dz1 (k := 12) (m := 1) dzb0_cX10_fault_0 di_0 (Nat.zero_lt_succ _) rfl
theorem dX10_fault_13 : decode cX10_fault 13 = .ok (.getfield 29, 3) := dz1 (k := 13) (m := 3) dzb0_cX10_fault_0 di_36 (Nat.zero_lt_succ _) rfl
theorem dX10_fault_16 : decode cX10_fault 16 = .ok (.aload_n 0, 1) := dz1 (k := 16) (m := 1) dzb0_cX10_fault_0 di_0 (Nat.zero_lt_succ _) rfl
theorem dX10_fault_17 : decode cX10_fault 17 = .ok (.getfield 20, 3) := dz1 (k := 17) (m := 3) dzb0_cX10_fault_0 di_97 (Nat.zero_lt_succ _) rfl
theorem dX10_fault_20 : decode cX10_fault 20 = .ok (.iload_n 1, 1) := dz1 (k := 20) (m := 1) dzb0_cX10_fault_0 di_11 (Nat.zero_lt_succ _) rfl
theorem dX10_fault_21 : decode cX10_fault 21 = .ok (.aaload, 1) := dz1 (k := 21) (m := 1) dzb0_cX10_fault_0 di_130 (Nat.zero_lt_succ _) rfl
theorem dX10_fault_22 : decode cX10_fault 22 = .ok (.aload_n 0, 1) := dz1 (k := 22) (m := 1) dzb0_cX10_fault_0 di_0 (Nat.zero_lt_succ _) rfl
theorem dX10_fault_23 : decode cX10_fault 23 = .ok (.getfield 23, 3) := dz1 (k := 23) (m := 3) dzb0_cX10_fault_0 di_222 (Nat.zero_lt_succ _) rfl
theorem dX10_fault_26 : decode cX10_fault 26 = .ok (.iload_n 1, 1) := dz1 (k := 26) (m := 1) dzb0_cX10_fault_0 di_11 (Nat.zero_lt_succ _) rfl
theorem dX10_fault_27 : decode cX10_fault 27 = .ok (.iaload, 1) := dz1 (k := 27) (m := 1) dzb0_cX10_fault_0 di_30 (Nat.zero_lt_succ _) rfl
theorem dX10_fault_28 : decode cX10_fault 28 = .ok (.invokevirtual 124, 3) := dz1 (k := 28) (m := 3) dzb0_cX10_fault_0 di_263 (Nat.zero_lt_succ _) rfl
theorem dX10_fault_31 : decode cX10_fault 31 = .ok (.ireturn, 1) := dz1 (k := 31) (m := 1) dzb0_cX10_fault_0 di_13 (Nat.zero_lt_succ _) rfl
set_option maxRecDepth 100000 in
theorem dzb0_cX10_hall_0 : DzLies cX10_hall (.mk ⟨[0x2a, 0x1b, 0xb6, 0x00, 0x79, 0x3d, 0x1c, 0x99, 0x00, 0x05, 0x1c, 0xac, 0x2a, 0xb4, 0x00, 0x1d, 0x2a, 0xb4, 0x00, 0x14, 0x1b, 0x32, 0x2a, 0xb4, 0x00, 0x17, 0x1b, 0x2e, 0xb6, 0x00, 0x7c, 0x10, 0xf7]⟩) 0 := dz_lies (m := 33) (Nat.zero_lt_succ _) rfl
theorem dX10_hall_0 : decode cX10_hall 0 = .ok (.aload_n 0, 1) := dz1 (k := 0) (m := 1) dzb0_cX10_hall_0 di_0 (Nat.zero_lt_succ _) rfl
theorem dX10_hall_1 : decode cX10_hall 1 = .ok (.iload_n 1, 1) := dz1 (k := 1) (m := 1) dzb0_cX10_hall_0 di_11 (Nat.zero_lt_succ _) rfl
theorem dX10_hall_2 : decode cX10_hall 2 = .ok (.invokevirtual 121, 3) := dz1 (k := 2) (m := 3) dzb0_cX10_hall_0 di_258 (Nat.zero_lt_succ _) rfl
theorem dX10_hall_5 : decode cX10_hall 5 = .ok (.istore_n 2, 1) := dz1 (k := 5) (m := 1) dzb0_cX10_hall_0 di_27 (Nat.zero_lt_succ _) rfl
theorem dX10_hall_6 : decode cX10_hall 6 = .ok (.iload_n 2, 1) := dz1 (k := 6) (m := 1) dzb0_cX10_hall_0 di_28 (Nat.zero_lt_succ _) rfl
theorem dX10_hall_7 : decode cX10_hall 7 = .ok (.ifCond .eq 5, 3) := dz1 (k := 7) (m := 3) dzb0_cX10_hall_0 di_236 (Nat.zero_lt_succ _) rfl
theorem dX10_hall_10 : decode cX10_hall 10 = .ok (.iload_n 2, 1) := dz1 (k := 10) (m := 1) dzb0_cX10_hall_0 di_28 (Nat.zero_lt_succ _) rfl
theorem dX10_hall_11 : decode cX10_hall 11 = .ok (.ireturn, 1) := dz1 (k := 11) (m := 1) dzb0_cX10_hall_0 di_13 (Nat.zero_lt_succ _) rfl
theorem dX10_hall_12 : decode cX10_hall 12 = .ok (.aload_n 0, 1) := dz1 (k := 12) (m := 1) dzb0_cX10_hall_0 di_0 (Nat.zero_lt_succ _) rfl
theorem dX10_hall_13 : decode cX10_hall 13 = .ok (.getfield 29, 3) := dz1 (k := 13) (m := 3) dzb0_cX10_hall_0 di_36 (Nat.zero_lt_succ _) rfl
theorem dX10_hall_16 : decode cX10_hall 16 = .ok (.aload_n 0, 1) := dz1 (k := 16) (m := 1) dzb0_cX10_hall_0 di_0 (Nat.zero_lt_succ _) rfl
theorem dX10_hall_17 : decode cX10_hall 17 = .ok (.getfield 20, 3) := dz1 (k := 17) (m := 3) dzb0_cX10_hall_0 di_97 (Nat.zero_lt_succ _) rfl
theorem dX10_hall_20 : decode cX10_hall 20 = .ok (.iload_n 1, 1) := dz1 (k := 20) (m := 1) dzb0_cX10_hall_0 di_11 (Nat.zero_lt_succ _) rfl
theorem dX10_hall_21 : decode cX10_hall 21 = .ok (.aaload, 1) := dz1 (k := 21) (m := 1) dzb0_cX10_hall_0 di_130 (Nat.zero_lt_succ _) rfl
theorem dX10_hall_22 : decode cX10_hall 22 = .ok (.aload_n 0, 1) := dz1 (k := 22) (m := 1) dzb0_cX10_hall_0 di_0 (Nat.zero_lt_succ _) rfl
theorem dX10_hall_23 : decode cX10_hall 23 = .ok (.getfield 23, 3) := dz1 (k := 23) (m := 3) dzb0_cX10_hall_0 di_222 (Nat.zero_lt_succ _) rfl
theorem dX10_hall_26 : decode cX10_hall 26 = .ok (.iload_n 1, 1) := dz1 (k := 26) (m := 1) dzb0_cX10_hall_0 di_11 (Nat.zero_lt_succ _) rfl
theorem dX10_hall_27 : decode cX10_hall 27 = .ok (.iaload, 1) := dz1 (k := 27) (m := 1) dzb0_cX10_hall_0 di_30 (Nat.zero_lt_succ _) rfl
theorem dX10_hall_28 : decode cX10_hall 28 = .ok (.invokevirtual 124, 3) := dz1 (k := 28) (m := 3) dzb0_cX10_hall_0 di_263 (Nat.zero_lt_succ _) rfl
theorem dX10_hall_31 : decode cX10_hall 31 = .ok (.bipush (-9), 2) := dz1 (k := 31) (m := 2) dzb0_cX10_hall_0 di_102 (Nat.zero_lt_succ _) rfl
set_option maxRecDepth 100000 in
theorem dzb0_cX10_hall_32 : DzLies cX10_hall (.mk ⟨[0xf7, 0x9f, 0x00, 0x06, 0x10, 0xfc, 0xac, 0x2a, 0xb4, 0x00, 0x24, 0x2a, 0xb4, 0x00, 0x1d, 0xb6, 0x00, 0x80, 0x2a, 0xb4, 0x00, 0x34, 0x03, 0xb5, 0x00, 0x53, 0x03, 0x3e, 0x1d, 0x06, 0xa2, 0x00, 0x13]⟩) 32 := dz_lies (m := 33) (Nat.zero_lt_succ _) rfl
theorem dX10_hall_33 : decode cX10_hall 33 = .ok (.if_icmp .eq 6, 3) := dz1 (k := 1) (m := 3) dzb0_cX10_hall_32 di_103 (Nat.zero_lt_succ _) rfl
theorem dX10_hall_36 : decode cX10_hall 36 = .ok (.bipush (-4), 2) := dz1 (k := 4) (m := 2) dzb0_cX10_hall_32 di_264 (Nat.zero_lt_succ _) rfl
theorem dX10_hall_38 : decode cX10_hall 38 = .ok (.ireturn, 1) := dz1 (k := 6) (m := 1) dzb0_cX10_hall_32 di_13 (Nat.zero_lt_succ _) rfl
theorem dX10_hall_39 : decode cX10_hall 39 = .ok (.aload_n 0, 1) := dz1 (k := 7) (m := 1) dzb0_cX10_hall_32 di_0 (Nat.zero_lt_succ _) rfl
theorem dX10_hall_40 : decode cX10_hall 40 = .ok (.getfield 36, 3) := dz1 (k := 8) (m := 3) dzb0_cX10_hall_32 di_205 (Nat.zero_lt_succ _) rfl
theorem dX10_hall_43 : decode cX10_hall 43 = .ok (.aload_n 0, 1) := dz1 (k := 11) (m := 1) dzb0_cX10_hall_32 di_0 (Nat.zero_lt_succ _) rfl
theorem dX10_hall_44 : decode cX10_hall 44 = .ok (.getfield 29, 3) := dz1 (k := 12) (m := 3) dzb0_cX10_hall_32 di_36 (Nat.zero_lt_succ _) rfl
theorem dX10_hall_47 : decode cX10_hall 47 = .ok (.invokevirtual 128, 3) := dz1 (k := 15) (m := 3) dzb0_cX10_hall_32 di_265 (Nat.zero_lt_succ _) rfl
theorem dX10_hall_50 : decode cX10_hall 50 = .ok (.aload_n 0, 1) := dz1 (k := 18) (m := 1) dzb0_cX10_hall_32 di_0 (Nat.zero_lt_succ _) rfl
theorem dX10_hall_51 : decode cX10_hall 51 = .ok (.getfield 52, 3) := dz1 (k := 19) (m := 3) dzb0_cX10_hall_32 di_266 (Nat.zero_lt_succ _) rfl
theorem dX10_hall_54 : decode cX10_hall 54 = .ok (.iconst 0, 1) := dz1 (k := 22) (m := 1) dzb0_cX10_hall_32 di_8 (Nat.zero_lt_succ _) rfl
theorem dX10_hall_55 : decode cX10_hall 55 = .ok (.putfield 83, 3) := dz1 (k := 23) (m := 3) dzb0_cX10_hall_32 di_225 (Nat.zero_lt_succ _) rfl
theorem dX10_hall_58 : decode cX10_hall 58 = .ok (.iconst 0, 1) := dz1 (k := 26) (m := 1) dzb0_cX10_hall_32 di_8 (Nat.zero_lt_succ _) rfl
theorem dX10_hall_59 : decode cX10_hall 59 = .ok (.istore_n 3, 1) := dz1 (k := 27) (m := 1) dzb0_cX10_hall_32 di_50 (Nat.zero_lt_succ _) rfl
theorem dX10_hall_60 : decode cX10_hall 60 = .ok (.iload_n 3, 1) := dz1 (k := 28) (m := 1) dzb0_cX10_hall_32 di_3 (Nat.zero_lt_succ _) rfl
theorem dX10_hall_61 : decode cX10_hall 61 = .ok (.iconst 3, 1) := dz1 (k := 29) (m := 1) dzb0_cX10_hall_32 di_4 (Nat.zero_lt_succ _) rfl
theorem dX10_hall_62 : decode cX10_hall 62 = .ok (.if_icmp .ge 19, 3) := dz1 (k := 30) (m := 3) dzb0_cX10_hall_32 di_267 (Nat.zero_lt_succ _) rfl
set_option maxRecDepth 100000 in
theorem dzb0_cX10_hall_64 : DzLies cX10_hall (.mk ⟨[0x13, 0x2a, 0xb4, 0x00, 0x38, 0x1d, 0x32, 0x02, 0xb5, 0x00, 0x53, 0x84, 0x03, 0x01, 0xa7, 0xff, 0xee, 0x2a, 0xb4, 0x00, 0x2d, 0xb6, 0x00, 0x84, 0x2a, 0xb4, 0x00, 0x24, 0xb4, 0x00, 0x87, 0xac]⟩) 64 := dz_lies (m := 32) (Nat.zero_lt_succ _) rfl
theorem dX10_hall_65 : decode cX10_hall 65 = .ok (.aload_n 0, 1) := dz1 (k := 1) (m := 1) dzb0_cX10_hall_64 di_0 (Nat.zero_lt_succ _) rfl
theorem dX10_hall_66 : decode cX10_hall 66 = .ok (.getfield 56, 3) := dz1 (k := 2) (m := 3) dzb0_cX10_hall_64 di_224 (Nat.zero_lt_succ _) rfl
theorem dX10_hall_69 : decode cX10_hall 69 = .ok (.iload_n 3, 1) := dz1 (k := 5) (m := 1) dzb0_cX10_hall_64 di_3 (Nat.zero_lt_succ _) rfl
theorem dX10_hall_70 : decode cX10_hall 70 = .ok (.aaload, 1) := dz1 (k := 6) (m := 1) dzb0_cX10_hall_64 di_130 (Nat.zero_lt_succ _) rfl
theorem dX10_hall_71 : decode cX10_hall 71 = .ok (.iconst (-1), 1) := dz1 (k := 7) (m := 1) dzb0_cX10_hall_64 di_65 (Nat.zero_lt_succ _) rfl
theorem dX10_hall_72 : decode cX10_hall 72 = .ok (.putfield 83, 3) := dz1 (k := 8) (m := 3) dzb0_cX10_hall_64 di_225 (Nat.zero_lt_succ _) rfl
theorem dX10_hall_75 : decode cX10_hall 75 = .ok (.iinc 3 1, 3) := dz1 (k := 11) (m := 3) dzb0_cX10_hall_64 di_94 (Nat.zero_lt_succ _) rfl
theorem dX10_hall_78 : decode cX10_hall 78 = .ok (.goto (-18), 3) := dz1 (k := 14) (m := 3) dzb0_cX10_hall_64 di_268 (Nat.zero_lt_succ _) rfl
theorem dX10_hall_81 : decode cX10_hall 81 = .ok (.aload_n 0, 1) := dz1 (k := 17) (m := 1) dzb0_cX10_hall_64 di_0 (Nat.zero_lt_succ _) rfl
theorem dX10_hall_82 : decode cX10_hall 82 = .ok (.getfield 45, 3) := dz1 (k := 18) (m := 3) dzb0_cX10_hall_64 di_153 (Nat.zero_lt_succ _) rfl
theorem dX10_hall_85 : decode cX10_hall 85 = .ok (.invokevirtual 132, 3) := dz1 (k := 21) (m := 3) dzb0_cX10_hall_64 di_269 (Nat.zero_lt_succ _) rfl
theorem dX10_hall_88 : decode cX10_hall 88 = .ok (.aload_n 0, 1) := dz1 (k := 24) (m := 1) dzb0_cX10_hall_64 di_0 (Nat.zero_lt_succ _) rfl
theorem dX10_hall_89 : decode cX10_hall 89 = .ok (.getfield 36, 3) := dz1 (k := 25) (m := 3) dzb0_cX10_hall_64 di_205 (Nat.zero_lt_succ _) rfl
theorem dX10_hall_92 : decode cX10_hall 92 = .ok (.getfield 135, 3) := dz1 (k := 28) (m := 3) dzb0_cX10_hall_64 di_270 (Nat.zero_lt_succ _) rfl
theorem dX10_hall_95 : decode cX10_hall 95 = .ok (.ireturn, 1) := dz1 (k := 31) (m := 1) dzb0_cX10_hall_64 di_13 (Nat.zero_lt_succ _) rfl
set_option maxRecDepth 100000 in
theorem dzb0_cX10_player_0 : DzLies cX10_player (.mk ⟨[0x2a, 0x1b, 0xb6, 0x00, 0x8a, 0x99, 0x00, 0x0c, 0x1c, 0x9b, 0x00, 0x08, 0x1c, 0x07, 0xa4, 0x00, 0x05, 0x02, 0xac, 0x2a, 0x2a, 0x1b, 0x1c, 0xb6, 0x00, 0x8d, 0xb5, 0x00, 0x63, 0x04, 0xac]⟩) 0 := dz_lies (m := 31) (Nat.zero_lt_succ _) rfl
theorem dX10_player_0 : decode cX10_player 0 = .ok (.aload_n 0, 1) := dz1 (k := 0) (m := 1) dzb0_cX10_player_0 di_0 (Nat.zero_lt_succ _) rfl
theorem dX10_player_1 : decode cX10_player 1 = .ok (.iload_n 1, 1) := dz1 (k := 1) (m := 1) dzb0_cX10_player_0 di_11 (Nat.zero_lt_succ _) rfl
theorem dX10_player_2 : decode cX10_player 2 = .ok (.invokevirtual 138, 3) := dz1 (k := 2) (m := 3) dzb0_cX10_player_0 di_271 (Nat.zero_lt_succ _) rfl
theorem dX10_player_5 : decode cX10_player 5 = .ok (.ifCond .eq 12, 3) := dz1 (k := 5) (m := 3) dzb0_cX10_player_0 di_272 (Nat.zero_lt_succ _) rfl
theorem dX10_player_8 : decode cX10_player 8 = .ok (.iload_n 2, 1) := dz1 (k := 8) (m := 1) dzb0_cX10_player_0 di_28 (Nat.zero_lt_succ _) rfl
theorem dX10_player_9 : decode cX10_player 9 = .ok (.ifCond .lt 8, 3) := dz1 (k := 9) (m := 3) dzb0_cX10_player_0 di_273 (Nat.zero_lt_succ _) rfl
theorem dX10_player_12 : decode cX10_player 12 = .ok (.iload_n 2, 1) := dz1 (k := 12) (m := 1) dzb0_cX10_player_0 di_28 (Nat.zero_lt_succ _) rfl
theorem dX10_player_13 : decode cX10_player 13 = .ok (.iconst 4, 1) := dz1 (k := 13) (m := 1) dzb0_cX10_player_0 di_33 (Nat.zero_lt_succ _) rfl
theorem dX10_player_14 : decode cX10_player 14 = .ok (.if_icmp .le 5, 3) := dz1 (k := 14) (m := 3) dzb0_cX10_player_0 di_230 (Nat.zero_lt_succ _) rfl
theorem dX10_player_17 : decode cX10_player 17 = .ok (.iconst (-1), 1) := dz1 (k := 17) (m := 1) dzb0_cX10_player_0 di_65 (Nat.zero_lt_succ _) rfl
theorem dX10_player_18 : decode cX10_player 18 = .ok (.ireturn, 1) := dz1 (k := 18) (m := 1) dzb0_cX10_player_0 di_13 (Nat.zero_lt_succ _) rfl
theorem dX10_player_19 : decode cX10_player 19 = .ok (.aload_n 0, 1) := dz1 (k := 19) (m := 1) dzb0_cX10_player_0 di_0 (Nat.zero_lt_succ _) rfl
theorem dX10_player_20 : decode cX10_player 20 = .ok (.aload_n 0, 1) := dz1 (k := 20) (m := 1) dzb0_cX10_player_0 di_0 (Nat.zero_lt_succ _) rfl
theorem dX10_player_21 : decode cX10_player 21 = .ok (.iload_n 1, 1) := dz1 (k := 21) (m := 1) dzb0_cX10_player_0 di_11 (Nat.zero_lt_succ _) rfl
theorem dX10_player_22 : decode cX10_player 22 = .ok (.iload_n 2, 1) := dz1 (k := 22) (m := 1) dzb0_cX10_player_0 di_28 (Nat.zero_lt_succ _) rfl
theorem dX10_player_23 : decode cX10_player 23 = .ok (.invokevirtual 141, 3) := dz1 (k := 23) (m := 3) dzb0_cX10_player_0 di_274 (Nat.zero_lt_succ _) rfl
theorem dX10_player_26 : decode cX10_player 26 = .ok (.putfield 99, 3) := dz1 (k := 26) (m := 3) dzb0_cX10_player_0 di_235 (Nat.zero_lt_succ _) rfl
theorem dX10_player_29 : decode cX10_player 29 = .ok (.iconst 1, 1) := dz1 (k := 29) (m := 1) dzb0_cX10_player_0 di_10 (Nat.zero_lt_succ _) rfl
theorem dX10_player_30 : decode cX10_player 30 = .ok (.ireturn, 1) := dz1 (k := 30) (m := 1) dzb0_cX10_player_0 di_13 (Nat.zero_lt_succ _) rfl
set_option maxRecDepth 100000 in
theorem dzb0_cX10_card_0 : DzLies cX10_card (.mk ⟨[0x2a, 0x1b, 0xb6, 0x00, 0x8a, 0x99, 0x00, 0x0b, 0x2a, 0x1c, 0xb6, 0x00, 0x90, 0x9a, 0x00, 0x05, 0x02, 0xac, 0x2a, 0x2a, 0xb4, 0x00, 0x24, 0xb4, 0x00, 0x93, 0x1b, 0x32, 0x1c, 0x2e, 0xb5, 0x00, 0x63]⟩) 0 := dz_lies (m := 33) (Nat.zero_lt_succ _) rfl
theorem dX10_card_0 : decode cX10_card 0 = .ok (.aload_n 0, 1) := dz1 (k := 0) (m := 1) dzb0_cX10_card_0 di_0 (Nat.zero_lt_succ _) rfl
theorem dX10_card_1 : decode cX10_card 1 = .ok (.iload_n 1, 1) := dz1 (k := 1) (m := 1) dzb0_cX10_card_0 di_11 (Nat.zero_lt_succ _) rfl
theorem dX10_card_2 : decode cX10_card 2 = .ok (.invokevirtual 138, 3) := dz1 (k := 2) (m := 3) dzb0_cX10_card_0 di_271 (Nat.zero_lt_succ _) rfl
theorem dX10_card_5 : decode cX10_card 5 = .ok (.ifCond .eq 11, 3) := dz1 (k := 5) (m := 3) dzb0_cX10_card_0 di_238 (Nat.zero_lt_succ _) rfl
theorem dX10_card_8 : decode cX10_card 8 = .ok (.aload_n 0, 1) := dz1 (k := 8) (m := 1) dzb0_cX10_card_0 di_0 (Nat.zero_lt_succ _) rfl
theorem dX10_card_9 : decode cX10_card 9 = .ok (.iload_n 2, 1) := dz1 (k := 9) (m := 1) dzb0_cX10_card_0 di_28 (Nat.zero_lt_succ _) rfl
theorem dX10_card_10 : decode cX10_card 10 = .ok (.invokevirtual 144, 3) := dz1 (k := 10) (m := 3) dzb0_cX10_card_0 di_275 (Nat.zero_lt_succ _) rfl
theorem dX10_card_13 : decode cX10_card 13 = .ok (.ifCond .ne 5, 3) := dz1 (k := 13) (m := 3) dzb0_cX10_card_0 di_239 (Nat.zero_lt_succ _) rfl
theorem dX10_card_16 : decode cX10_card 16 = .ok (.iconst (-1), 1) := dz1 (k := 16) (m := 1) dzb0_cX10_card_0 di_65 (Nat.zero_lt_succ _) rfl
theorem dX10_card_17 : decode cX10_card 17 = .ok (.ireturn, 1) := dz1 (k := 17) (m := 1) dzb0_cX10_card_0 di_13 (Nat.zero_lt_succ _) rfl
theorem dX10_card_18 : decode cX10_card 18 = .ok (.aload_n 0, 1) := dz1 (k := 18) (m := 1) dzb0_cX10_card_0 di_0 (Nat.zero_lt_succ _) rfl
theorem dX10_card_19 : decode cX10_card 19 = .ok (.aload_n 0, 1) := dz1 (k := 19) (m := 1) dzb0_cX10_card_0 di_0 (Nat.zero_lt_succ _) rfl
theorem dX10_card_20 : decode cX10_card 20 = .ok (.getfield 36, 3) := dz1 (k := 20) (m := 3) dzb0_cX10_card_0 di_205 (Nat.zero_lt_succ _) rfl
theorem dX10_card_23 : decode cX10_card 23 = .ok (.getfield 147, 3) := dz1 (k := 23) (m := 3) dzb0_cX10_card_0 di_276 (Nat.zero_lt_succ _) rfl
theorem dX10_card_26 : decode cX10_card 26 = .ok (.iload_n 1, 1) := dz1 (k := 26) (m := 1) dzb0_cX10_card_0 di_11 (Nat.zero_lt_succ _) rfl
theorem dX10_card_27 : decode cX10_card 27 = .ok (.aaload, 1) := dz1 (k := 27) (m := 1) dzb0_cX10_card_0 di_130 (Nat.zero_lt_succ _) rfl
theorem dX10_card_28 : decode cX10_card 28 = .ok (.iload_n 2, 1) := dz1 (k := 28) (m := 1) dzb0_cX10_card_0 di_28 (Nat.zero_lt_succ _) rfl
theorem dX10_card_29 : decode cX10_card 29 = .ok (.iaload, 1) := dz1 (k := 29) (m := 1) dzb0_cX10_card_0 di_30 (Nat.zero_lt_succ _) rfl
theorem dX10_card_30 : decode cX10_card 30 = .ok (.putfield 99, 3) := dz1 (k := 30) (m := 3) dzb0_cX10_card_0 di_235 (Nat.zero_lt_succ _) rfl
set_option maxRecDepth 100000 in
theorem dzb0_cX10_card_32 : DzLies cX10_card (.mk ⟨[0x63, 0x04, 0xac]⟩) 32 := dz_lies (m := 3) (Nat.zero_lt_succ _) rfl
theorem dX10_card_33 : decode cX10_card 33 = .ok (.iconst 1, 1) := dz1 (k := 1) (m := 1) dzb0_cX10_card_32 di_10 (Nat.zero_lt_succ _) rfl
theorem dX10_card_34 : decode cX10_card 34 = .ok (.ireturn, 1) := dz1 (k := 2) (m := 1) dzb0_cX10_card_32 di_13 (Nat.zero_lt_succ _) rfl
set_option maxRecDepth 100000 in
theorem dzb0_cX10_mark_0 : DzLies cX10_mark (.mk ⟨[0x2a, 0x1b, 0xb6, 0x00, 0x8a, 0x99, 0x00, 0x0d, 0x1c, 0x04, 0xa1, 0x00, 0x08, 0x1c, 0x08, 0xa4, 0x00, 0x05, 0x02, 0xac, 0x2a, 0xb4, 0x00, 0x24, 0x1b, 0xb6, 0x00, 0x96, 0x4e, 0x1c, 0x04, 0xa0, 0x00, 0x1f]⟩) 0 := dz_lies (m := 34) (Nat.zero_lt_succ _) rfl
theorem dX10_mark_0 : decode cX10_mark 0 = .ok (.aload_n 0, 1) := dz1 (k := 0) (m := 1) dzb0_cX10_mark_0 di_0 (Nat.zero_lt_succ _) rfl
theorem dX10_mark_1 : decode cX10_mark 1 = .ok (.iload_n 1, 1) := dz1 (k := 1) (m := 1) dzb0_cX10_mark_0 di_11 (Nat.zero_lt_succ _) rfl
theorem dX10_mark_2 : decode cX10_mark 2 = .ok (.invokevirtual 138, 3) := dz1 (k := 2) (m := 3) dzb0_cX10_mark_0 di_271 (Nat.zero_lt_succ _) rfl
theorem dX10_mark_5 : decode cX10_mark 5 = .ok (.ifCond .eq 13, 3) := dz1 (k := 5) (m := 3) dzb0_cX10_mark_0 di_277 (Nat.zero_lt_succ _) rfl
theorem dX10_mark_8 : decode cX10_mark 8 = .ok (.iload_n 2, 1) := dz1 (k := 8) (m := 1) dzb0_cX10_mark_0 di_28 (Nat.zero_lt_succ _) rfl
theorem dX10_mark_9 : decode cX10_mark 9 = .ok (.iconst 1, 1) := dz1 (k := 9) (m := 1) dzb0_cX10_mark_0 di_10 (Nat.zero_lt_succ _) rfl
theorem dX10_mark_10 : decode cX10_mark 10 = .ok (.if_icmp .lt 8, 3) := dz1 (k := 10) (m := 3) dzb0_cX10_mark_0 di_278 (Nat.zero_lt_succ _) rfl
theorem dX10_mark_13 : decode cX10_mark 13 = .ok (.iload_n 2, 1) := dz1 (k := 13) (m := 1) dzb0_cX10_mark_0 di_28 (Nat.zero_lt_succ _) rfl
theorem dX10_mark_14 : decode cX10_mark 14 = .ok (.iconst 5, 1) := dz1 (k := 14) (m := 1) dzb0_cX10_mark_0 di_145 (Nat.zero_lt_succ _) rfl
theorem dX10_mark_15 : decode cX10_mark 15 = .ok (.if_icmp .le 5, 3) := dz1 (k := 15) (m := 3) dzb0_cX10_mark_0 di_230 (Nat.zero_lt_succ _) rfl
theorem dX10_mark_18 : decode cX10_mark 18 = .ok (.iconst (-1), 1) := dz1 (k := 18) (m := 1) dzb0_cX10_mark_0 di_65 (Nat.zero_lt_succ _) rfl
theorem dX10_mark_19 : decode cX10_mark 19 = .ok (.ireturn, 1) := dz1 (k := 19) (m := 1) dzb0_cX10_mark_0 di_13 (Nat.zero_lt_succ _) rfl
theorem dX10_mark_20 : decode cX10_mark 20 = .ok (.aload_n 0, 1) := dz1 (k := 20) (m := 1) dzb0_cX10_mark_0 di_0 (Nat.zero_lt_succ _) rfl
theorem dX10_mark_21 : decode cX10_mark 21 = .ok (.getfield 36, 3) := dz1 (k := 21) (m := 3) dzb0_cX10_mark_0 di_205 (Nat.zero_lt_succ _) rfl
theorem dX10_mark_24 : decode cX10_mark 24 = .ok (.iload_n 1, 1) := dz1 (k := 24) (m := 1) dzb0_cX10_mark_0 di_11 (Nat.zero_lt_succ _) rfl
theorem dX10_mark_25 : decode cX10_mark 25 = .ok (.invokevirtual 150, 3) := dz1 (k := 25) (m := 3) dzb0_cX10_mark_0 di_279 (Nat.zero_lt_succ _) rfl
theorem dX10_mark_28 : decode cX10_mark 28 = .ok (.astore_n 3, 1) := dz1 (k := 28) (m := 1) dzb0_cX10_mark_0 di_280 (Nat.zero_lt_succ _) rfl
theorem dX10_mark_29 : decode cX10_mark 29 = .ok (.iload_n 2, 1) := dz1 (k := 29) (m := 1) dzb0_cX10_mark_0 di_28 (Nat.zero_lt_succ _) rfl
theorem dX10_mark_30 : decode cX10_mark 30 = .ok (.iconst 1, 1) := dz1 (k := 30) (m := 1) dzb0_cX10_mark_0 di_10 (Nat.zero_lt_succ _) rfl
theorem dX10_mark_31 : decode cX10_mark 31 = .ok (.if_icmp .ne 31, 3) := dz1 (k := 31) (m := 3) dzb0_cX10_mark_0 di_281 (Nat.zero_lt_succ _) rfl
set_option maxRecDepth 100000 in
theorem dzb0_cX10_mark_32 : DzLies cX10_mark (.mk ⟨[0x00, 0x1f, 0x2d, 0xc1, 0x00, 0x9a, 0x99, 0x00, 0x18, 0x2d, 0xc0, 0x00, 0x9a, 0x3a, 0x04, 0x19, 0x04, 0x2a, 0xb4, 0x00, 0x2d, 0xb4, 0x00, 0x9c, 0x1b, 0x2e, 0xb6, 0x00, 0x9f, 0xac, 0x1c, 0x05]⟩) 32 := dz_lies (m := 32) (Nat.zero_lt_succ _) rfl
theorem dX10_mark_34 : decode cX10_mark 34 = .ok (.aload_n 3, 1) := dz1 (k := 2) (m := 1) dzb0_cX10_mark_32 di_282 (Nat.zero_lt_succ _) rfl
theorem dX10_mark_35 : decode cX10_mark 35 = .ok (.instanceof 154, 3) := dz1 (k := 3) (m := 3) dzb0_cX10_mark_32 di_283 (Nat.zero_lt_succ _) rfl
theorem dX10_mark_38 : decode cX10_mark 38 = .ok (.ifCond .eq 24, 3) := dz1 (k := 6) (m := 3) dzb0_cX10_mark_32 di_284 (Nat.zero_lt_succ _) rfl
theorem dX10_mark_41 : decode cX10_mark 41 = .ok (.aload_n 3, 1) := dz1 (k := 9) (m := 1) dzb0_cX10_mark_32 di_282 (Nat.zero_lt_succ _) rfl
theorem dX10_mark_42 : decode cX10_mark 42 = .ok (.checkcast 154, 3) := dz1 (k := 10) (m := 3) dzb0_cX10_mark_32 di_285 (Nat.zero_lt_succ _) rfl
theorem dX10_mark_45 : decode cX10_mark 45 = .ok (.astore 4, 2) := dz1 (k := 13) (m := 2) dzb0_cX10_mark_32 di_286 (Nat.zero_lt_succ _) rfl
theorem dX10_mark_47 : decode cX10_mark 47 = .ok (.aload 4, 2) := dz1 (k := 15) (m := 2) dzb0_cX10_mark_32 di_287 (Nat.zero_lt_succ _) rfl
theorem dX10_mark_49 : decode cX10_mark 49 = .ok (.aload_n 0, 1) := dz1 (k := 17) (m := 1) dzb0_cX10_mark_32 di_0 (Nat.zero_lt_succ _) rfl
theorem dX10_mark_50 : decode cX10_mark 50 = .ok (.getfield 45, 3) := dz1 (k := 18) (m := 3) dzb0_cX10_mark_32 di_153 (Nat.zero_lt_succ _) rfl
theorem dX10_mark_53 : decode cX10_mark 53 = .ok (.getfield 156, 3) := dz1 (k := 21) (m := 3) dzb0_cX10_mark_32 di_288 (Nat.zero_lt_succ _) rfl
theorem dX10_mark_56 : decode cX10_mark 56 = .ok (.iload_n 1, 1) := dz1 (k := 24) (m := 1) dzb0_cX10_mark_32 di_11 (Nat.zero_lt_succ _) rfl
theorem dX10_mark_57 : decode cX10_mark 57 = .ok (.iaload, 1) := dz1 (k := 25) (m := 1) dzb0_cX10_mark_32 di_30 (Nat.zero_lt_succ _) rfl
theorem dX10_mark_58 : decode cX10_mark 58 = .ok (.invokevirtual 159, 3) := dz1 (k := 26) (m := 3) dzb0_cX10_mark_32 di_289 (Nat.zero_lt_succ _) rfl
theorem dX10_mark_61 : decode cX10_mark 61 = .ok (.ireturn, 1) := dz1 (k := 29) (m := 1) dzb0_cX10_mark_32 di_13 (Nat.zero_lt_succ _) rfl
theorem dX10_mark_62 : decode cX10_mark 62 = .ok (.iload_n 2, 1) := dz1 (k := 30) (m := 1) dzb0_cX10_mark_32 di_28 (Nat.zero_lt_succ _) rfl
theorem dX10_mark_63 : decode cX10_mark 63 = .ok (.iconst 2, 1) := dz1 (k := 31) (m := 1) dzb0_cX10_mark_32 di_6 (Nat.zero_lt_succ _) rfl
set_option maxRecDepth 100000 in
theorem dzb0_cX10_mark_64 : DzLies cX10_mark (.mk ⟨[0xa0, 0x00, 0x1d, 0x2d, 0xc1, 0x00, 0xa2, 0x99, 0x00, 0x16, 0x2d, 0xc0, 0x00, 0xa2, 0x3a, 0x04, 0x19, 0x04, 0x2a, 0xb4, 0x00, 0x2d, 0xb4, 0x00, 0xa4, 0xb6, 0x00, 0xa7, 0xac, 0x1c, 0x06, 0xa0, 0x00, 0x1f]⟩) 64 := dz_lies (m := 34) (Nat.zero_lt_succ _) rfl
theorem dX10_mark_64 : decode cX10_mark 64 = .ok (.if_icmp .ne 29, 3) := dz1 (k := 0) (m := 3) dzb0_cX10_mark_64 di_290 (Nat.zero_lt_succ _) rfl
theorem dX10_mark_67 : decode cX10_mark 67 = .ok (.aload_n 3, 1) := dz1 (k := 3) (m := 1) dzb0_cX10_mark_64 di_282 (Nat.zero_lt_succ _) rfl
theorem dX10_mark_68 : decode cX10_mark 68 = .ok (.instanceof 162, 3) := dz1 (k := 4) (m := 3) dzb0_cX10_mark_64 di_291 (Nat.zero_lt_succ _) rfl
theorem dX10_mark_71 : decode cX10_mark 71 = .ok (.ifCond .eq 22, 3) := dz1 (k := 7) (m := 3) dzb0_cX10_mark_64 di_292 (Nat.zero_lt_succ _) rfl
theorem dX10_mark_74 : decode cX10_mark 74 = .ok (.aload_n 3, 1) := dz1 (k := 10) (m := 1) dzb0_cX10_mark_64 di_282 (Nat.zero_lt_succ _) rfl
theorem dX10_mark_75 : decode cX10_mark 75 = .ok (.checkcast 162, 3) := dz1 (k := 11) (m := 3) dzb0_cX10_mark_64 di_293 (Nat.zero_lt_succ _) rfl
theorem dX10_mark_78 : decode cX10_mark 78 = .ok (.astore 4, 2) := dz1 (k := 14) (m := 2) dzb0_cX10_mark_64 di_286 (Nat.zero_lt_succ _) rfl
theorem dX10_mark_80 : decode cX10_mark 80 = .ok (.aload 4, 2) := dz1 (k := 16) (m := 2) dzb0_cX10_mark_64 di_287 (Nat.zero_lt_succ _) rfl
theorem dX10_mark_82 : decode cX10_mark 82 = .ok (.aload_n 0, 1) := dz1 (k := 18) (m := 1) dzb0_cX10_mark_64 di_0 (Nat.zero_lt_succ _) rfl
theorem dX10_mark_83 : decode cX10_mark 83 = .ok (.getfield 45, 3) := dz1 (k := 19) (m := 3) dzb0_cX10_mark_64 di_153 (Nat.zero_lt_succ _) rfl
theorem dX10_mark_86 : decode cX10_mark 86 = .ok (.getfield 164, 3) := dz1 (k := 22) (m := 3) dzb0_cX10_mark_64 di_294 (Nat.zero_lt_succ _) rfl
theorem dX10_mark_89 : decode cX10_mark 89 = .ok (.invokevirtual 167, 3) := dz1 (k := 25) (m := 3) dzb0_cX10_mark_64 di_295 (Nat.zero_lt_succ _) rfl
theorem dX10_mark_92 : decode cX10_mark 92 = .ok (.ireturn, 1) := dz1 (k := 28) (m := 1) dzb0_cX10_mark_64 di_13 (Nat.zero_lt_succ _) rfl
theorem dX10_mark_93 : decode cX10_mark 93 = .ok (.iload_n 2, 1) := dz1 (k := 29) (m := 1) dzb0_cX10_mark_64 di_28 (Nat.zero_lt_succ _) rfl
theorem dX10_mark_94 : decode cX10_mark 94 = .ok (.iconst 3, 1) := dz1 (k := 30) (m := 1) dzb0_cX10_mark_64 di_4 (Nat.zero_lt_succ _) rfl
theorem dX10_mark_95 : decode cX10_mark 95 = .ok (.if_icmp .ne 31, 3) := dz1 (k := 31) (m := 3) dzb0_cX10_mark_64 di_281 (Nat.zero_lt_succ _) rfl
set_option maxRecDepth 100000 in
theorem dzb0_cX10_mark_96 : DzLies cX10_mark (.mk ⟨[0x00, 0x1f, 0x2d, 0xc1, 0x00, 0xaa, 0x99, 0x00, 0x18, 0x2d, 0xc0, 0x00, 0xaa, 0x3a, 0x04, 0x19, 0x04, 0x2a, 0xb4, 0x00, 0x2d, 0xb4, 0x00, 0x9c, 0x1b, 0x2e, 0xb6, 0x00, 0xac, 0xac, 0x1c, 0x07]⟩) 96 := dz_lies (m := 32) (Nat.zero_lt_succ _) rfl
theorem dX10_mark_98 : decode cX10_mark 98 = .ok (.aload_n 3, 1) := dz1 (k := 2) (m := 1) dzb0_cX10_mark_96 di_282 (Nat.zero_lt_succ _) rfl
theorem dX10_mark_99 : decode cX10_mark 99 = .ok (.instanceof 170, 3) := dz1 (k := 3) (m := 3) dzb0_cX10_mark_96 di_296 (Nat.zero_lt_succ _) rfl
theorem dX10_mark_102 : decode cX10_mark 102 = .ok (.ifCond .eq 24, 3) := dz1 (k := 6) (m := 3) dzb0_cX10_mark_96 di_284 (Nat.zero_lt_succ _) rfl
theorem dX10_mark_105 : decode cX10_mark 105 = .ok (.aload_n 3, 1) := dz1 (k := 9) (m := 1) dzb0_cX10_mark_96 di_282 (Nat.zero_lt_succ _) rfl
theorem dX10_mark_106 : decode cX10_mark 106 = .ok (.checkcast 170, 3) := dz1 (k := 10) (m := 3) dzb0_cX10_mark_96 di_297 (Nat.zero_lt_succ _) rfl
theorem dX10_mark_109 : decode cX10_mark 109 = .ok (.astore 4, 2) := dz1 (k := 13) (m := 2) dzb0_cX10_mark_96 di_286 (Nat.zero_lt_succ _) rfl
theorem dX10_mark_111 : decode cX10_mark 111 = .ok (.aload 4, 2) := dz1 (k := 15) (m := 2) dzb0_cX10_mark_96 di_287 (Nat.zero_lt_succ _) rfl
theorem dX10_mark_113 : decode cX10_mark 113 = .ok (.aload_n 0, 1) := dz1 (k := 17) (m := 1) dzb0_cX10_mark_96 di_0 (Nat.zero_lt_succ _) rfl
theorem dX10_mark_114 : decode cX10_mark 114 = .ok (.getfield 45, 3) := dz1 (k := 18) (m := 3) dzb0_cX10_mark_96 di_153 (Nat.zero_lt_succ _) rfl
theorem dX10_mark_117 : decode cX10_mark 117 = .ok (.getfield 156, 3) := dz1 (k := 21) (m := 3) dzb0_cX10_mark_96 di_288 (Nat.zero_lt_succ _) rfl
theorem dX10_mark_120 : decode cX10_mark 120 = .ok (.iload_n 1, 1) := dz1 (k := 24) (m := 1) dzb0_cX10_mark_96 di_11 (Nat.zero_lt_succ _) rfl
theorem dX10_mark_121 : decode cX10_mark 121 = .ok (.iaload, 1) := dz1 (k := 25) (m := 1) dzb0_cX10_mark_96 di_30 (Nat.zero_lt_succ _) rfl
theorem dX10_mark_122 : decode cX10_mark 122 = .ok (.invokevirtual 172, 3) := dz1 (k := 26) (m := 3) dzb0_cX10_mark_96 di_298 (Nat.zero_lt_succ _) rfl
theorem dX10_mark_125 : decode cX10_mark 125 = .ok (.ireturn, 1) := dz1 (k := 29) (m := 1) dzb0_cX10_mark_96 di_13 (Nat.zero_lt_succ _) rfl
theorem dX10_mark_126 : decode cX10_mark 126 = .ok (.iload_n 2, 1) := dz1 (k := 30) (m := 1) dzb0_cX10_mark_96 di_28 (Nat.zero_lt_succ _) rfl
theorem dX10_mark_127 : decode cX10_mark 127 = .ok (.iconst 4, 1) := dz1 (k := 31) (m := 1) dzb0_cX10_mark_96 di_33 (Nat.zero_lt_succ _) rfl
set_option maxRecDepth 100000 in
theorem dzb0_cX10_mark_128 : DzLies cX10_mark (.mk ⟨[0xa0, 0x00, 0x12, 0x2d, 0xc1, 0x00, 0xaf, 0x99, 0x00, 0x0b, 0x2a, 0xb4, 0x00, 0x2d, 0xb4, 0x00, 0xb1, 0xac, 0x1c, 0x08, 0xa0, 0x00, 0x1f, 0x2d, 0xc1, 0x00, 0xb4, 0x99, 0x00, 0x18, 0x2d, 0xc0, 0x00, 0xb4]⟩) 128 := dz_lies (m := 34) (Nat.zero_lt_succ _) rfl
theorem dX10_mark_128 : decode cX10_mark 128 = .ok (.if_icmp .ne 18, 3) := dz1 (k := 0) (m := 3) dzb0_cX10_mark_128 di_177 (Nat.zero_lt_succ _) rfl
theorem dX10_mark_131 : decode cX10_mark 131 = .ok (.aload_n 3, 1) := dz1 (k := 3) (m := 1) dzb0_cX10_mark_128 di_282 (Nat.zero_lt_succ _) rfl
theorem dX10_mark_132 : decode cX10_mark 132 = .ok (.instanceof 175, 3) := dz1 (k := 4) (m := 3) dzb0_cX10_mark_128 di_299 (Nat.zero_lt_succ _) rfl
theorem dX10_mark_135 : decode cX10_mark 135 = .ok (.ifCond .eq 11, 3) := dz1 (k := 7) (m := 3) dzb0_cX10_mark_128 di_238 (Nat.zero_lt_succ _) rfl
theorem dX10_mark_138 : decode cX10_mark 138 = .ok (.aload_n 0, 1) := dz1 (k := 10) (m := 1) dzb0_cX10_mark_128 di_0 (Nat.zero_lt_succ _) rfl
theorem dX10_mark_139 : decode cX10_mark 139 = .ok (.getfield 45, 3) := dz1 (k := 11) (m := 3) dzb0_cX10_mark_128 di_153 (Nat.zero_lt_succ _) rfl
theorem dX10_mark_142 : decode cX10_mark 142 = .ok (.getfield 177, 3) := dz1 (k := 14) (m := 3) dzb0_cX10_mark_128 di_300 (Nat.zero_lt_succ _) rfl
theorem dX10_mark_145 : decode cX10_mark 145 = .ok (.ireturn, 1) := dz1 (k := 17) (m := 1) dzb0_cX10_mark_128 di_13 (Nat.zero_lt_succ _) rfl
theorem dX10_mark_146 : decode cX10_mark 146 = .ok (.iload_n 2, 1) := dz1 (k := 18) (m := 1) dzb0_cX10_mark_128 di_28 (Nat.zero_lt_succ _) rfl
theorem dX10_mark_147 : decode cX10_mark 147 = .ok (.iconst 5, 1) := dz1 (k := 19) (m := 1) dzb0_cX10_mark_128 di_145 (Nat.zero_lt_succ _) rfl
theorem dX10_mark_148 : decode cX10_mark 148 = .ok (.if_icmp .ne 31, 3) := dz1 (k := 20) (m := 3) dzb0_cX10_mark_128 di_281 (Nat.zero_lt_succ _) rfl
theorem dX10_mark_151 : decode cX10_mark 151 = .ok (.aload_n 3, 1) := dz1 (k := 23) (m := 1) dzb0_cX10_mark_128 di_282 (Nat.zero_lt_succ _) rfl
theorem dX10_mark_152 : decode cX10_mark 152 = .ok (.instanceof 180, 3) := dz1 (k := 24) (m := 3) dzb0_cX10_mark_128 di_301 (Nat.zero_lt_succ _) rfl
theorem dX10_mark_155 : decode cX10_mark 155 = .ok (.ifCond .eq 24, 3) := dz1 (k := 27) (m := 3) dzb0_cX10_mark_128 di_284 (Nat.zero_lt_succ _) rfl
theorem dX10_mark_158 : decode cX10_mark 158 = .ok (.aload_n 3, 1) := dz1 (k := 30) (m := 1) dzb0_cX10_mark_128 di_282 (Nat.zero_lt_succ _) rfl
theorem dX10_mark_159 : decode cX10_mark 159 = .ok (.checkcast 180, 3) := dz1 (k := 31) (m := 3) dzb0_cX10_mark_128 di_302 (Nat.zero_lt_succ _) rfl
set_option maxRecDepth 100000 in
theorem dzb0_cX10_mark_160 : DzLies cX10_mark (.mk ⟨[0x00, 0xb4, 0x3a, 0x04, 0x19, 0x04, 0x2a, 0xb4, 0x00, 0x24, 0xb4, 0x00, 0xb6, 0x1b, 0x2e, 0xb6, 0x00, 0xb9, 0xac, 0x2a, 0x06, 0xb6, 0x00, 0x5b, 0xac]⟩) 160 := dz_lies (m := 25) (Nat.zero_lt_succ _) rfl
theorem dX10_mark_162 : decode cX10_mark 162 = .ok (.astore 4, 2) := dz1 (k := 2) (m := 2) dzb0_cX10_mark_160 di_286 (Nat.zero_lt_succ _) rfl
theorem dX10_mark_164 : decode cX10_mark 164 = .ok (.aload 4, 2) := dz1 (k := 4) (m := 2) dzb0_cX10_mark_160 di_287 (Nat.zero_lt_succ _) rfl
theorem dX10_mark_166 : decode cX10_mark 166 = .ok (.aload_n 0, 1) := dz1 (k := 6) (m := 1) dzb0_cX10_mark_160 di_0 (Nat.zero_lt_succ _) rfl
theorem dX10_mark_167 : decode cX10_mark 167 = .ok (.getfield 36, 3) := dz1 (k := 7) (m := 3) dzb0_cX10_mark_160 di_205 (Nat.zero_lt_succ _) rfl
theorem dX10_mark_170 : decode cX10_mark 170 = .ok (.getfield 182, 3) := dz1 (k := 10) (m := 3) dzb0_cX10_mark_160 di_303 (Nat.zero_lt_succ _) rfl
theorem dX10_mark_173 : decode cX10_mark 173 = .ok (.iload_n 1, 1) := dz1 (k := 13) (m := 1) dzb0_cX10_mark_160 di_11 (Nat.zero_lt_succ _) rfl
theorem dX10_mark_174 : decode cX10_mark 174 = .ok (.iaload, 1) := dz1 (k := 14) (m := 1) dzb0_cX10_mark_160 di_30 (Nat.zero_lt_succ _) rfl
theorem dX10_mark_175 : decode cX10_mark 175 = .ok (.invokevirtual 185, 3) := dz1 (k := 15) (m := 3) dzb0_cX10_mark_160 di_304 (Nat.zero_lt_succ _) rfl
theorem dX10_mark_178 : decode cX10_mark 178 = .ok (.ireturn, 1) := dz1 (k := 18) (m := 1) dzb0_cX10_mark_160 di_13 (Nat.zero_lt_succ _) rfl
theorem dX10_mark_179 : decode cX10_mark 179 = .ok (.aload_n 0, 1) := dz1 (k := 19) (m := 1) dzb0_cX10_mark_160 di_0 (Nat.zero_lt_succ _) rfl
theorem dX10_mark_180 : decode cX10_mark 180 = .ok (.iconst 3, 1) := dz1 (k := 20) (m := 1) dzb0_cX10_mark_160 di_4 (Nat.zero_lt_succ _) rfl
theorem dX10_mark_181 : decode cX10_mark 181 = .ok (.invokevirtual 91, 3) := dz1 (k := 21) (m := 3) dzb0_cX10_mark_160 di_232 (Nat.zero_lt_succ _) rfl
theorem dX10_mark_184 : decode cX10_mark 184 = .ok (.ireturn, 1) := dz1 (k := 24) (m := 1) dzb0_cX10_mark_160 di_13 (Nat.zero_lt_succ _) rfl
set_option maxRecDepth 100000 in
theorem dzb0_cX10_call_0 : DzLies cX10_call (.mk ⟨[0x2a, 0x1b, 0xb6, 0x00, 0xbc, 0x9a, 0x00, 0x05, 0x02, 0xac, 0x2a, 0xb4, 0x00, 0x24, 0xb4, 0x00, 0x87, 0x99, 0x00, 0x0e, 0x2a, 0xb4, 0x00, 0x2d, 0x1b, 0xb6, 0x00, 0xbf, 0x9a, 0x00, 0x06, 0x10, 0xfc]⟩) 0 := dz_lies (m := 33) (Nat.zero_lt_succ _) rfl
theorem dX10_call_0 : decode cX10_call 0 = .ok (.aload_n 0, 1) := dz1 (k := 0) (m := 1) dzb0_cX10_call_0 di_0 (Nat.zero_lt_succ _) rfl
theorem dX10_call_1 : decode cX10_call 1 = .ok (.iload_n 1, 1) := dz1 (k := 1) (m := 1) dzb0_cX10_call_0 di_11 (Nat.zero_lt_succ _) rfl
theorem dX10_call_2 : decode cX10_call 2 = .ok (.invokevirtual 188, 3) := dz1 (k := 2) (m := 3) dzb0_cX10_call_0 di_305 (Nat.zero_lt_succ _) rfl
theorem dX10_call_5 : decode cX10_call 5 = .ok (.ifCond .ne 5, 3) := dz1 (k := 5) (m := 3) dzb0_cX10_call_0 di_239 (Nat.zero_lt_succ _) rfl
theorem dX10_call_8 : decode cX10_call 8 = .ok (.iconst (-1), 1) := dz1 (k := 8) (m := 1) dzb0_cX10_call_0 di_65 (Nat.zero_lt_succ _) rfl
theorem dX10_call_9 : decode cX10_call 9 = .ok (.ireturn, 1) := dz1 (k := 9) (m := 1) dzb0_cX10_call_0 di_13 (Nat.zero_lt_succ _) rfl
theorem dX10_call_10 : decode cX10_call 10 = .ok (.aload_n 0, 1) := dz1 (k := 10) (m := 1) dzb0_cX10_call_0 di_0 (Nat.zero_lt_succ _) rfl
theorem dX10_call_11 : decode cX10_call 11 = .ok (.getfield 36, 3) := dz1 (k := 11) (m := 3) dzb0_cX10_call_0 di_205 (Nat.zero_lt_succ _) rfl
theorem dX10_call_14 : decode cX10_call 14 = .ok (.getfield 135, 3) := dz1 (k := 14) (m := 3) dzb0_cX10_call_0 di_270 (Nat.zero_lt_succ _) rfl
theorem dX10_call_17 : decode cX10_call 17 = .ok (.ifCond .eq 14, 3) := dz1 (k := 17) (m := 3) dzb0_cX10_call_0 di_306 (Nat.zero_lt_succ _) rfl
theorem dX10_call_20 : decode cX10_call 20 = .ok (.aload_n 0, 1) := dz1 (k := 20) (m := 1) dzb0_cX10_call_0 di_0 (Nat.zero_lt_succ _) rfl
theorem dX10_call_21 : decode cX10_call 21 = .ok (.getfield 45, 3) := dz1 (k := 21) (m := 3) dzb0_cX10_call_0 di_153 (Nat.zero_lt_succ _) rfl
theorem dX10_call_24 : decode cX10_call 24 = .ok (.iload_n 1, 1) := dz1 (k := 24) (m := 1) dzb0_cX10_call_0 di_11 (Nat.zero_lt_succ _) rfl
theorem dX10_call_25 : decode cX10_call 25 = .ok (.invokevirtual 191, 3) := dz1 (k := 25) (m := 3) dzb0_cX10_call_0 di_307 (Nat.zero_lt_succ _) rfl
theorem dX10_call_28 : decode cX10_call 28 = .ok (.ifCond .ne 6, 3) := dz1 (k := 28) (m := 3) dzb0_cX10_call_0 di_308 (Nat.zero_lt_succ _) rfl
theorem dX10_call_31 : decode cX10_call 31 = .ok (.bipush (-4), 2) := dz1 (k := 31) (m := 2) dzb0_cX10_call_0 di_264 (Nat.zero_lt_succ _) rfl
set_option maxRecDepth 100000 in
theorem dzb0_cX10_call_32 : DzLies cX10_call (.mk ⟨[0xfc, 0xac, 0x2a, 0xb4, 0x00, 0x34, 0xb4, 0x00, 0x53, 0x10, 0x28, 0xa1, 0x00, 0x06, 0x10, 0xfe, 0xac, 0x2a, 0x1b, 0xb6, 0x00, 0xc2, 0xac]⟩) 32 := dz_lies (m := 23) (Nat.zero_lt_succ _) rfl
theorem dX10_call_33 : decode cX10_call 33 = .ok (.ireturn, 1) := dz1 (k := 1) (m := 1) dzb0_cX10_call_32 di_13 (Nat.zero_lt_succ _) rfl
theorem dX10_call_34 : decode cX10_call 34 = .ok (.aload_n 0, 1) := dz1 (k := 2) (m := 1) dzb0_cX10_call_32 di_0 (Nat.zero_lt_succ _) rfl
theorem dX10_call_35 : decode cX10_call 35 = .ok (.getfield 52, 3) := dz1 (k := 3) (m := 3) dzb0_cX10_call_32 di_266 (Nat.zero_lt_succ _) rfl
theorem dX10_call_38 : decode cX10_call 38 = .ok (.getfield 83, 3) := dz1 (k := 6) (m := 3) dzb0_cX10_call_32 di_309 (Nat.zero_lt_succ _) rfl
theorem dX10_call_41 : decode cX10_call 41 = .ok (.bipush 40, 2) := dz1 (k := 9) (m := 2) dzb0_cX10_call_32 di_16 (Nat.zero_lt_succ _) rfl
theorem dX10_call_43 : decode cX10_call 43 = .ok (.if_icmp .lt 6, 3) := dz1 (k := 11) (m := 3) dzb0_cX10_call_32 di_310 (Nat.zero_lt_succ _) rfl
theorem dX10_call_46 : decode cX10_call 46 = .ok (.bipush (-2), 2) := dz1 (k := 14) (m := 2) dzb0_cX10_call_32 di_311 (Nat.zero_lt_succ _) rfl
theorem dX10_call_48 : decode cX10_call 48 = .ok (.ireturn, 1) := dz1 (k := 16) (m := 1) dzb0_cX10_call_32 di_13 (Nat.zero_lt_succ _) rfl
theorem dX10_call_49 : decode cX10_call 49 = .ok (.aload_n 0, 1) := dz1 (k := 17) (m := 1) dzb0_cX10_call_32 di_0 (Nat.zero_lt_succ _) rfl
theorem dX10_call_50 : decode cX10_call 50 = .ok (.iload_n 1, 1) := dz1 (k := 18) (m := 1) dzb0_cX10_call_32 di_11 (Nat.zero_lt_succ _) rfl
theorem dX10_call_51 : decode cX10_call 51 = .ok (.invokevirtual 194, 3) := dz1 (k := 19) (m := 3) dzb0_cX10_call_32 di_312 (Nat.zero_lt_succ _) rfl
theorem dX10_call_54 : decode cX10_call 54 = .ok (.ireturn, 1) := dz1 (k := 22) (m := 1) dzb0_cX10_call_32 di_13 (Nat.zero_lt_succ _) rfl
set_option maxRecDepth 100000 in
theorem dzb0_cX10_rub_0 : DzLies cX10_rub (.mk ⟨[0x2a, 0x1b, 0xb6, 0x00, 0x8a, 0x99, 0x00, 0x0b, 0x2a, 0x1c, 0xb6, 0x00, 0x90, 0x9a, 0x00, 0x05, 0x02, 0xac, 0x2a, 0xb4, 0x00, 0x34, 0xb4, 0x00, 0x53, 0x10, 0x28, 0xa1, 0x00, 0x06, 0x10, 0xfe]⟩) 0 := dz_lies (m := 32) (Nat.zero_lt_succ _) rfl
theorem dX10_rub_0 : decode cX10_rub 0 = .ok (.aload_n 0, 1) := dz1 (k := 0) (m := 1) dzb0_cX10_rub_0 di_0 (Nat.zero_lt_succ _) rfl
theorem dX10_rub_1 : decode cX10_rub 1 = .ok (.iload_n 1, 1) := dz1 (k := 1) (m := 1) dzb0_cX10_rub_0 di_11 (Nat.zero_lt_succ _) rfl
theorem dX10_rub_2 : decode cX10_rub 2 = .ok (.invokevirtual 138, 3) := dz1 (k := 2) (m := 3) dzb0_cX10_rub_0 di_271 (Nat.zero_lt_succ _) rfl
theorem dX10_rub_5 : decode cX10_rub 5 = .ok (.ifCond .eq 11, 3) := dz1 (k := 5) (m := 3) dzb0_cX10_rub_0 di_238 (Nat.zero_lt_succ _) rfl
theorem dX10_rub_8 : decode cX10_rub 8 = .ok (.aload_n 0, 1) := dz1 (k := 8) (m := 1) dzb0_cX10_rub_0 di_0 (Nat.zero_lt_succ _) rfl
theorem dX10_rub_9 : decode cX10_rub 9 = .ok (.iload_n 2, 1) := dz1 (k := 9) (m := 1) dzb0_cX10_rub_0 di_28 (Nat.zero_lt_succ _) rfl
theorem dX10_rub_10 : decode cX10_rub 10 = .ok (.invokevirtual 144, 3) := dz1 (k := 10) (m := 3) dzb0_cX10_rub_0 di_275 (Nat.zero_lt_succ _) rfl
theorem dX10_rub_13 : decode cX10_rub 13 = .ok (.ifCond .ne 5, 3) := dz1 (k := 13) (m := 3) dzb0_cX10_rub_0 di_239 (Nat.zero_lt_succ _) rfl
theorem dX10_rub_16 : decode cX10_rub 16 = .ok (.iconst (-1), 1) := dz1 (k := 16) (m := 1) dzb0_cX10_rub_0 di_65 (Nat.zero_lt_succ _) rfl
theorem dX10_rub_17 : decode cX10_rub 17 = .ok (.ireturn, 1) := dz1 (k := 17) (m := 1) dzb0_cX10_rub_0 di_13 (Nat.zero_lt_succ _) rfl
theorem dX10_rub_18 : decode cX10_rub 18 = .ok (.aload_n 0, 1) := dz1 (k := 18) (m := 1) dzb0_cX10_rub_0 di_0 (Nat.zero_lt_succ _) rfl
theorem dX10_rub_19 : decode cX10_rub 19 = .ok (.getfield 52, 3) := dz1 (k := 19) (m := 3) dzb0_cX10_rub_0 di_266 (Nat.zero_lt_succ _) rfl
theorem dX10_rub_22 : decode cX10_rub 22 = .ok (.getfield 83, 3) := dz1 (k := 22) (m := 3) dzb0_cX10_rub_0 di_309 (Nat.zero_lt_succ _) rfl
theorem dX10_rub_25 : decode cX10_rub 25 = .ok (.bipush 40, 2) := dz1 (k := 25) (m := 2) dzb0_cX10_rub_0 di_16 (Nat.zero_lt_succ _) rfl
theorem dX10_rub_27 : decode cX10_rub 27 = .ok (.if_icmp .lt 6, 3) := dz1 (k := 27) (m := 3) dzb0_cX10_rub_0 di_310 (Nat.zero_lt_succ _) rfl
theorem dX10_rub_30 : decode cX10_rub 30 = .ok (.bipush (-2), 2) := dz1 (k := 30) (m := 2) dzb0_cX10_rub_0 di_311 (Nat.zero_lt_succ _) rfl
set_option maxRecDepth 100000 in
theorem dzb0_cX10_rub_32 : DzLies cX10_rub (.mk ⟨[0xac, 0x2a, 0x1b, 0x1c, 0xb6, 0x00, 0xc5, 0x2a, 0xb4, 0x00, 0x2d, 0xb4, 0x00, 0x9c, 0x1b, 0x2e, 0xac]⟩) 32 := dz_lies (m := 17) (Nat.zero_lt_succ _) rfl
theorem dX10_rub_32 : decode cX10_rub 32 = .ok (.ireturn, 1) := dz1 (k := 0) (m := 1) dzb0_cX10_rub_32 di_13 (Nat.zero_lt_succ _) rfl
theorem dX10_rub_33 : decode cX10_rub 33 = .ok (.aload_n 0, 1) := dz1 (k := 1) (m := 1) dzb0_cX10_rub_32 di_0 (Nat.zero_lt_succ _) rfl
theorem dX10_rub_34 : decode cX10_rub 34 = .ok (.iload_n 1, 1) := dz1 (k := 2) (m := 1) dzb0_cX10_rub_32 di_11 (Nat.zero_lt_succ _) rfl
theorem dX10_rub_35 : decode cX10_rub 35 = .ok (.iload_n 2, 1) := dz1 (k := 3) (m := 1) dzb0_cX10_rub_32 di_28 (Nat.zero_lt_succ _) rfl
theorem dX10_rub_36 : decode cX10_rub 36 = .ok (.invokevirtual 197, 3) := dz1 (k := 4) (m := 3) dzb0_cX10_rub_32 di_313 (Nat.zero_lt_succ _) rfl
theorem dX10_rub_39 : decode cX10_rub 39 = .ok (.aload_n 0, 1) := dz1 (k := 7) (m := 1) dzb0_cX10_rub_32 di_0 (Nat.zero_lt_succ _) rfl
theorem dX10_rub_40 : decode cX10_rub 40 = .ok (.getfield 45, 3) := dz1 (k := 8) (m := 3) dzb0_cX10_rub_32 di_153 (Nat.zero_lt_succ _) rfl
theorem dX10_rub_43 : decode cX10_rub 43 = .ok (.getfield 156, 3) := dz1 (k := 11) (m := 3) dzb0_cX10_rub_32 di_288 (Nat.zero_lt_succ _) rfl
theorem dX10_rub_46 : decode cX10_rub 46 = .ok (.iload_n 1, 1) := dz1 (k := 14) (m := 1) dzb0_cX10_rub_32 di_11 (Nat.zero_lt_succ _) rfl
theorem dX10_rub_47 : decode cX10_rub 47 = .ok (.iaload, 1) := dz1 (k := 15) (m := 1) dzb0_cX10_rub_32 di_30 (Nat.zero_lt_succ _) rfl
theorem dX10_rub_48 : decode cX10_rub 48 = .ok (.ireturn, 1) := dz1 (k := 16) (m := 1) dzb0_cX10_rub_32 di_13 (Nat.zero_lt_succ _) rfl
set_option maxRecDepth 100000 in
theorem dzb0_cX10_undo_0 : DzLies cX10_undo (.mk ⟨[0x1b, 0x9b, 0x00, 0x0e, 0x1b, 0x2a, 0xb4, 0x00, 0x34, 0xb4, 0x00, 0x53, 0xa4, 0x00, 0x05, 0x02, 0xac, 0x2a, 0xb4, 0x00, 0x34, 0xb4, 0x00, 0x53, 0x1b, 0x64, 0x3d, 0x2a, 0xb4, 0x00, 0x34, 0x1b]⟩) 0 := dz_lies (m := 32) (Nat.zero_lt_succ _) rfl
theorem dX10_undo_0 : decode cX10_undo 0 = .ok (.iload_n 1, 1) := dz1 (k := 0) (m := 1) dzb0_cX10_undo_0 di_11 (Nat.zero_lt_succ _) rfl
theorem dX10_undo_1 : decode cX10_undo 1 = .ok (.ifCond .lt 14, 3) := dz1 (k := 1) (m := 3) dzb0_cX10_undo_0 di_314 (Nat.zero_lt_succ _) rfl
theorem dX10_undo_4 : decode cX10_undo 4 = .ok (.iload_n 1, 1) := dz1 (k := 4) (m := 1) dzb0_cX10_undo_0 di_11 (Nat.zero_lt_succ _) rfl
theorem dX10_undo_5 : decode cX10_undo 5 = .ok (.aload_n 0, 1) := dz1 (k := 5) (m := 1) dzb0_cX10_undo_0 di_0 (Nat.zero_lt_succ _) rfl
theorem dX10_undo_6 : decode cX10_undo 6 = .ok (.getfield 52, 3) := dz1 (k := 6) (m := 3) dzb0_cX10_undo_0 di_266 (Nat.zero_lt_succ _) rfl
theorem dX10_undo_9 : decode cX10_undo 9 = .ok (.getfield 83, 3) := dz1 (k := 9) (m := 3) dzb0_cX10_undo_0 di_309 (Nat.zero_lt_succ _) rfl
theorem dX10_undo_12 : decode cX10_undo 12 = .ok (.if_icmp .le 5, 3) := dz1 (k := 12) (m := 3) dzb0_cX10_undo_0 di_230 (Nat.zero_lt_succ _) rfl
theorem dX10_undo_15 : decode cX10_undo 15 = .ok (.iconst (-1), 1) := dz1 (k := 15) (m := 1) dzb0_cX10_undo_0 di_65 (Nat.zero_lt_succ _) rfl
theorem dX10_undo_16 : decode cX10_undo 16 = .ok (.ireturn, 1) := dz1 (k := 16) (m := 1) dzb0_cX10_undo_0 di_13 (Nat.zero_lt_succ _) rfl
theorem dX10_undo_17 : decode cX10_undo 17 = .ok (.aload_n 0, 1) := dz1 (k := 17) (m := 1) dzb0_cX10_undo_0 di_0 (Nat.zero_lt_succ _) rfl
theorem dX10_undo_18 : decode cX10_undo 18 = .ok (.getfield 52, 3) := dz1 (k := 18) (m := 3) dzb0_cX10_undo_0 di_266 (Nat.zero_lt_succ _) rfl
theorem dX10_undo_21 : decode cX10_undo 21 = .ok (.getfield 83, 3) := dz1 (k := 21) (m := 3) dzb0_cX10_undo_0 di_309 (Nat.zero_lt_succ _) rfl
theorem dX10_undo_24 : decode cX10_undo 24 = .ok (.iload_n 1, 1) := dz1 (k := 24) (m := 1) dzb0_cX10_undo_0 di_11 (Nat.zero_lt_succ _) rfl
theorem dX10_undo_25 : decode cX10_undo 25 = .ok (.isub, 1) := dz1 (k := 25) (m := 1) dzb0_cX10_undo_0 di_14 (Nat.zero_lt_succ _) rfl
theorem dX10_undo_26 : decode cX10_undo 26 = .ok (.istore_n 2, 1) := dz1 (k := 26) (m := 1) dzb0_cX10_undo_0 di_27 (Nat.zero_lt_succ _) rfl
theorem dX10_undo_27 : decode cX10_undo 27 = .ok (.aload_n 0, 1) := dz1 (k := 27) (m := 1) dzb0_cX10_undo_0 di_0 (Nat.zero_lt_succ _) rfl
theorem dX10_undo_28 : decode cX10_undo 28 = .ok (.getfield 52, 3) := dz1 (k := 28) (m := 3) dzb0_cX10_undo_0 di_266 (Nat.zero_lt_succ _) rfl
theorem dX10_undo_31 : decode cX10_undo 31 = .ok (.iload_n 1, 1) := dz1 (k := 31) (m := 1) dzb0_cX10_undo_0 di_11 (Nat.zero_lt_succ _) rfl
set_option maxRecDepth 100000 in
theorem dzb0_cX10_undo_32 : DzLies cX10_undo (.mk ⟨[0xb5, 0x00, 0x53, 0x2a, 0xb6, 0x00, 0xc9, 0x1c, 0xac]⟩) 32 := dz_lies (m := 9) (Nat.zero_lt_succ _) rfl
theorem dX10_undo_32 : decode cX10_undo 32 = .ok (.putfield 83, 3) := dz1 (k := 0) (m := 3) dzb0_cX10_undo_32 di_225 (Nat.zero_lt_succ _) rfl
theorem dX10_undo_35 : decode cX10_undo 35 = .ok (.aload_n 0, 1) := dz1 (k := 3) (m := 1) dzb0_cX10_undo_32 di_0 (Nat.zero_lt_succ _) rfl
theorem dX10_undo_36 : decode cX10_undo 36 = .ok (.invokevirtual 201, 3) := dz1 (k := 4) (m := 3) dzb0_cX10_undo_32 di_315 (Nat.zero_lt_succ _) rfl
theorem dX10_undo_39 : decode cX10_undo 39 = .ok (.iload_n 2, 1) := dz1 (k := 7) (m := 1) dzb0_cX10_undo_32 di_28 (Nat.zero_lt_succ _) rfl
theorem dX10_undo_40 : decode cX10_undo 40 = .ok (.ireturn, 1) := dz1 (k := 8) (m := 1) dzb0_cX10_undo_32 di_13 (Nat.zero_lt_succ _) rfl
set_option maxRecDepth 100000 in
theorem dzb0_cX10_keep_0 : DzLies cX10_keep (.mk ⟨[0x2a, 0x1b, 0xb6, 0x00, 0xcc, 0x9a, 0x00, 0x05, 0x02, 0xac, 0x2a, 0xb4, 0x00, 0x24, 0xb4, 0x00, 0x87, 0x9a, 0x00, 0x06, 0x10, 0xfc, 0xac, 0x2a, 0xb4, 0x00, 0x38, 0x1b, 0x32, 0x2a, 0xb4, 0x00, 0x34]⟩) 0 := dz_lies (m := 33) (Nat.zero_lt_succ _) rfl
theorem dX10_keep_0 : decode cX10_keep 0 = .ok (.aload_n 0, 1) := dz1 (k := 0) (m := 1) dzb0_cX10_keep_0 di_0 (Nat.zero_lt_succ _) rfl
theorem dX10_keep_1 : decode cX10_keep 1 = .ok (.iload_n 1, 1) := dz1 (k := 1) (m := 1) dzb0_cX10_keep_0 di_11 (Nat.zero_lt_succ _) rfl
theorem dX10_keep_2 : decode cX10_keep 2 = .ok (.invokevirtual 204, 3) := dz1 (k := 2) (m := 3) dzb0_cX10_keep_0 di_316 (Nat.zero_lt_succ _) rfl
theorem dX10_keep_5 : decode cX10_keep 5 = .ok (.ifCond .ne 5, 3) := dz1 (k := 5) (m := 3) dzb0_cX10_keep_0 di_239 (Nat.zero_lt_succ _) rfl
theorem dX10_keep_8 : decode cX10_keep 8 = .ok (.iconst (-1), 1) := dz1 (k := 8) (m := 1) dzb0_cX10_keep_0 di_65 (Nat.zero_lt_succ _) rfl
theorem dX10_keep_9 : decode cX10_keep 9 = .ok (.ireturn, 1) := dz1 (k := 9) (m := 1) dzb0_cX10_keep_0 di_13 (Nat.zero_lt_succ _) rfl
theorem dX10_keep_10 : decode cX10_keep 10 = .ok (.aload_n 0, 1) := dz1 (k := 10) (m := 1) dzb0_cX10_keep_0 di_0 (Nat.zero_lt_succ _) rfl
theorem dX10_keep_11 : decode cX10_keep 11 = .ok (.getfield 36, 3) := dz1 (k := 11) (m := 3) dzb0_cX10_keep_0 di_205 (Nat.zero_lt_succ _) rfl
theorem dX10_keep_14 : decode cX10_keep 14 = .ok (.getfield 135, 3) := dz1 (k := 14) (m := 3) dzb0_cX10_keep_0 di_270 (Nat.zero_lt_succ _) rfl
theorem dX10_keep_17 : decode cX10_keep 17 = .ok (.ifCond .ne 6, 3) := dz1 (k := 17) (m := 3) dzb0_cX10_keep_0 di_308 (Nat.zero_lt_succ _) rfl
theorem dX10_keep_20 : decode cX10_keep 20 = .ok (.bipush (-4), 2) := dz1 (k := 20) (m := 2) dzb0_cX10_keep_0 di_264 (Nat.zero_lt_succ _) rfl
theorem dX10_keep_22 : decode cX10_keep 22 = .ok (.ireturn, 1) := dz1 (k := 22) (m := 1) dzb0_cX10_keep_0 di_13 (Nat.zero_lt_succ _) rfl
theorem dX10_keep_23 : decode cX10_keep 23 = .ok (.aload_n 0, 1) := dz1 (k := 23) (m := 1) dzb0_cX10_keep_0 di_0 (Nat.zero_lt_succ _) rfl
theorem dX10_keep_24 : decode cX10_keep 24 = .ok (.getfield 56, 3) := dz1 (k := 24) (m := 3) dzb0_cX10_keep_0 di_224 (Nat.zero_lt_succ _) rfl
theorem dX10_keep_27 : decode cX10_keep 27 = .ok (.iload_n 1, 1) := dz1 (k := 27) (m := 1) dzb0_cX10_keep_0 di_11 (Nat.zero_lt_succ _) rfl
theorem dX10_keep_28 : decode cX10_keep 28 = .ok (.aaload, 1) := dz1 (k := 28) (m := 1) dzb0_cX10_keep_0 di_130 (Nat.zero_lt_succ _) rfl
theorem dX10_keep_29 : decode cX10_keep 29 = .ok (.aload_n 0, 1) := dz1 (k := 29) (m := 1) dzb0_cX10_keep_0 di_0 (Nat.zero_lt_succ _) rfl
theorem dX10_keep_30 : decode cX10_keep 30 = .ok (.getfield 52, 3) := dz1 (k := 30) (m := 3) dzb0_cX10_keep_0 di_266 (Nat.zero_lt_succ _) rfl
set_option maxRecDepth 100000 in
theorem dzb0_cX10_keep_32 : DzLies cX10_keep (.mk ⟨[0x34, 0xb6, 0x00, 0xcf, 0x2a, 0xb4, 0x00, 0x34, 0xb4, 0x00, 0x53, 0xac]⟩) 32 := dz_lies (m := 12) (Nat.zero_lt_succ _) rfl
theorem dX10_keep_33 : decode cX10_keep 33 = .ok (.invokevirtual 207, 3) := dz1 (k := 1) (m := 3) dzb0_cX10_keep_32 di_317 (Nat.zero_lt_succ _) rfl
theorem dX10_keep_36 : decode cX10_keep 36 = .ok (.aload_n 0, 1) := dz1 (k := 4) (m := 1) dzb0_cX10_keep_32 di_0 (Nat.zero_lt_succ _) rfl
theorem dX10_keep_37 : decode cX10_keep 37 = .ok (.getfield 52, 3) := dz1 (k := 5) (m := 3) dzb0_cX10_keep_32 di_266 (Nat.zero_lt_succ _) rfl
theorem dX10_keep_40 : decode cX10_keep 40 = .ok (.getfield 83, 3) := dz1 (k := 8) (m := 3) dzb0_cX10_keep_32 di_309 (Nat.zero_lt_succ _) rfl
theorem dX10_keep_43 : decode cX10_keep 43 = .ok (.ireturn, 1) := dz1 (k := 11) (m := 1) dzb0_cX10_keep_32 di_13 (Nat.zero_lt_succ _) rfl
set_option maxRecDepth 100000 in
theorem dzb0_cX10_on_0 : DzLies cX10_on (.mk ⟨[0x2a, 0x1b, 0xb6, 0x00, 0xcc, 0x9a, 0x00, 0x05, 0x02, 0xac, 0x2a, 0xb4, 0x00, 0x38, 0x1b, 0x32, 0xb4, 0x00, 0x53, 0x9c, 0x00, 0x09, 0x2a, 0x04, 0xb6, 0x00, 0x5b, 0xac, 0x2a, 0xb4, 0x00, 0x34]⟩) 0 := dz_lies (m := 32) (Nat.zero_lt_succ _) rfl
theorem dX10_on_0 : decode cX10_on 0 = .ok (.aload_n 0, 1) := dz1 (k := 0) (m := 1) dzb0_cX10_on_0 di_0 (Nat.zero_lt_succ _) rfl
theorem dX10_on_1 : decode cX10_on 1 = .ok (.iload_n 1, 1) := dz1 (k := 1) (m := 1) dzb0_cX10_on_0 di_11 (Nat.zero_lt_succ _) rfl
theorem dX10_on_2 : decode cX10_on 2 = .ok (.invokevirtual 204, 3) := dz1 (k := 2) (m := 3) dzb0_cX10_on_0 di_316 (Nat.zero_lt_succ _) rfl
theorem dX10_on_5 : decode cX10_on 5 = .ok (.ifCond .ne 5, 3) := dz1 (k := 5) (m := 3) dzb0_cX10_on_0 di_239 (Nat.zero_lt_succ _) rfl
theorem dX10_on_8 : decode cX10_on 8 = .ok (.iconst (-1), 1) := dz1 (k := 8) (m := 1) dzb0_cX10_on_0 di_65 (Nat.zero_lt_succ _) rfl
theorem dX10_on_9 : decode cX10_on 9 = .ok (.ireturn, 1) := dz1 (k := 9) (m := 1) dzb0_cX10_on_0 di_13 (Nat.zero_lt_succ _) rfl
theorem dX10_on_10 : decode cX10_on 10 = .ok (.aload_n 0, 1) := dz1 (k := 10) (m := 1) dzb0_cX10_on_0 di_0 (Nat.zero_lt_succ _) rfl
theorem dX10_on_11 : decode cX10_on 11 = .ok (.getfield 56, 3) := dz1 (k := 11) (m := 3) dzb0_cX10_on_0 di_224 (Nat.zero_lt_succ _) rfl
theorem dX10_on_14 : decode cX10_on 14 = .ok (.iload_n 1, 1) := dz1 (k := 14) (m := 1) dzb0_cX10_on_0 di_11 (Nat.zero_lt_succ _) rfl
theorem dX10_on_15 : decode cX10_on 15 = .ok (.aaload, 1) := dz1 (k := 15) (m := 1) dzb0_cX10_on_0 di_130 (Nat.zero_lt_succ _) rfl
theorem dX10_on_16 : decode cX10_on 16 = .ok (.getfield 83, 3) := dz1 (k := 16) (m := 3) dzb0_cX10_on_0 di_309 (Nat.zero_lt_succ _) rfl
theorem dX10_on_19 : decode cX10_on 19 = .ok (.ifCond .ge 9, 3) := dz1 (k := 19) (m := 3) dzb0_cX10_on_0 di_231 (Nat.zero_lt_succ _) rfl
theorem dX10_on_22 : decode cX10_on 22 = .ok (.aload_n 0, 1) := dz1 (k := 22) (m := 1) dzb0_cX10_on_0 di_0 (Nat.zero_lt_succ _) rfl
theorem dX10_on_23 : decode cX10_on 23 = .ok (.iconst 1, 1) := dz1 (k := 23) (m := 1) dzb0_cX10_on_0 di_10 (Nat.zero_lt_succ _) rfl
theorem dX10_on_24 : decode cX10_on 24 = .ok (.invokevirtual 91, 3) := dz1 (k := 24) (m := 3) dzb0_cX10_on_0 di_232 (Nat.zero_lt_succ _) rfl
theorem dX10_on_27 : decode cX10_on 27 = .ok (.ireturn, 1) := dz1 (k := 27) (m := 1) dzb0_cX10_on_0 di_13 (Nat.zero_lt_succ _) rfl
theorem dX10_on_28 : decode cX10_on 28 = .ok (.aload_n 0, 1) := dz1 (k := 28) (m := 1) dzb0_cX10_on_0 di_0 (Nat.zero_lt_succ _) rfl
theorem dX10_on_29 : decode cX10_on 29 = .ok (.getfield 52, 3) := dz1 (k := 29) (m := 3) dzb0_cX10_on_0 di_266 (Nat.zero_lt_succ _) rfl
set_option maxRecDepth 100000 in
theorem dzb0_cX10_on_32 : DzLies cX10_on (.mk ⟨[0x2a, 0xb4, 0x00, 0x38, 0x1b, 0x32, 0xb6, 0x00, 0xcf, 0x2a, 0xb6, 0x00, 0xc9, 0x2a, 0xb4, 0x00, 0x34, 0xb4, 0x00, 0x53, 0xac]⟩) 32 := dz_lies (m := 21) (Nat.zero_lt_succ _) rfl
theorem dX10_on_32 : decode cX10_on 32 = .ok (.aload_n 0, 1) := dz1 (k := 0) (m := 1) dzb0_cX10_on_32 di_0 (Nat.zero_lt_succ _) rfl
theorem dX10_on_33 : decode cX10_on 33 = .ok (.getfield 56, 3) := dz1 (k := 1) (m := 3) dzb0_cX10_on_32 di_224 (Nat.zero_lt_succ _) rfl
theorem dX10_on_36 : decode cX10_on 36 = .ok (.iload_n 1, 1) := dz1 (k := 4) (m := 1) dzb0_cX10_on_32 di_11 (Nat.zero_lt_succ _) rfl
theorem dX10_on_37 : decode cX10_on 37 = .ok (.aaload, 1) := dz1 (k := 5) (m := 1) dzb0_cX10_on_32 di_130 (Nat.zero_lt_succ _) rfl
theorem dX10_on_38 : decode cX10_on 38 = .ok (.invokevirtual 207, 3) := dz1 (k := 6) (m := 3) dzb0_cX10_on_32 di_317 (Nat.zero_lt_succ _) rfl
theorem dX10_on_41 : decode cX10_on 41 = .ok (.aload_n 0, 1) := dz1 (k := 9) (m := 1) dzb0_cX10_on_32 di_0 (Nat.zero_lt_succ _) rfl
theorem dX10_on_42 : decode cX10_on 42 = .ok (.invokevirtual 201, 3) := dz1 (k := 10) (m := 3) dzb0_cX10_on_32 di_315 (Nat.zero_lt_succ _) rfl
theorem dX10_on_45 : decode cX10_on 45 = .ok (.aload_n 0, 1) := dz1 (k := 13) (m := 1) dzb0_cX10_on_32 di_0 (Nat.zero_lt_succ _) rfl
theorem dX10_on_46 : decode cX10_on 46 = .ok (.getfield 52, 3) := dz1 (k := 14) (m := 3) dzb0_cX10_on_32 di_266 (Nat.zero_lt_succ _) rfl
theorem dX10_on_49 : decode cX10_on 49 = .ok (.getfield 83, 3) := dz1 (k := 17) (m := 3) dzb0_cX10_on_32 di_309 (Nat.zero_lt_succ _) rfl
theorem dX10_on_52 : decode cX10_on 52 = .ok (.ireturn, 1) := dz1 (k := 20) (m := 1) dzb0_cX10_on_32 di_13 (Nat.zero_lt_succ _) rfl
set_option maxRecDepth 100000 in
theorem dzb0_cX10_hears_0 : DzLies cX10_hears (.mk ⟨[0x2a, 0x1b, 0xb6, 0x00, 0x8a, 0x99, 0x00, 0x15, 0x2a, 0x1c, 0xb6, 0x00, 0xbc, 0x99, 0x00, 0x0d, 0x1d, 0x9b, 0x00, 0x09, 0x1d, 0x10, 0x0c, 0xa4, 0x00, 0x05, 0x02, 0xac, 0x1d, 0x1c, 0x9f, 0x00, 0x0f]⟩) 0 := dz_lies (m := 33) (Nat.zero_lt_succ _) rfl
theorem dX10_hears_0 : decode cX10_hears 0 = .ok (.aload_n 0, 1) := dz1 (k := 0) (m := 1) dzb0_cX10_hears_0 di_0 (Nat.zero_lt_succ _) rfl
theorem dX10_hears_1 : decode cX10_hears 1 = .ok (.iload_n 1, 1) := dz1 (k := 1) (m := 1) dzb0_cX10_hears_0 di_11 (Nat.zero_lt_succ _) rfl
theorem dX10_hears_2 : decode cX10_hears 2 = .ok (.invokevirtual 138, 3) := dz1 (k := 2) (m := 3) dzb0_cX10_hears_0 di_271 (Nat.zero_lt_succ _) rfl
theorem dX10_hears_5 : decode cX10_hears 5 = .ok (.ifCond .eq 21, 3) := dz1 (k := 5) (m := 3) dzb0_cX10_hears_0 di_318 (Nat.zero_lt_succ _) rfl
theorem dX10_hears_8 : decode cX10_hears 8 = .ok (.aload_n 0, 1) := dz1 (k := 8) (m := 1) dzb0_cX10_hears_0 di_0 (Nat.zero_lt_succ _) rfl
theorem dX10_hears_9 : decode cX10_hears 9 = .ok (.iload_n 2, 1) := dz1 (k := 9) (m := 1) dzb0_cX10_hears_0 di_28 (Nat.zero_lt_succ _) rfl
theorem dX10_hears_10 : decode cX10_hears 10 = .ok (.invokevirtual 188, 3) := dz1 (k := 10) (m := 3) dzb0_cX10_hears_0 di_305 (Nat.zero_lt_succ _) rfl
theorem dX10_hears_13 : decode cX10_hears 13 = .ok (.ifCond .eq 13, 3) := dz1 (k := 13) (m := 3) dzb0_cX10_hears_0 di_277 (Nat.zero_lt_succ _) rfl
theorem dX10_hears_16 : decode cX10_hears 16 = .ok (.iload_n 3, 1) := dz1 (k := 16) (m := 1) dzb0_cX10_hears_0 di_3 (Nat.zero_lt_succ _) rfl
theorem dX10_hears_17 : decode cX10_hears 17 = .ok (.ifCond .lt 9, 3) := dz1 (k := 17) (m := 3) dzb0_cX10_hears_0 di_319 (Nat.zero_lt_succ _) rfl
theorem dX10_hears_20 : decode cX10_hears 20 = .ok (.iload_n 3, 1) := dz1 (k := 20) (m := 1) dzb0_cX10_hears_0 di_3 (Nat.zero_lt_succ _) rfl
theorem dX10_hears_21 : decode cX10_hears 21 = .ok (.bipush 12, 2) := dz1 (k := 21) (m := 2) dzb0_cX10_hears_0 di_126 (Nat.zero_lt_succ _) rfl
theorem dX10_hears_23 : decode cX10_hears 23 = .ok (.if_icmp .le 5, 3) := dz1 (k := 23) (m := 3) dzb0_cX10_hears_0 di_230 (Nat.zero_lt_succ _) rfl
theorem dX10_hears_26 : decode cX10_hears 26 = .ok (.iconst (-1), 1) := dz1 (k := 26) (m := 1) dzb0_cX10_hears_0 di_65 (Nat.zero_lt_succ _) rfl
theorem dX10_hears_27 : decode cX10_hears 27 = .ok (.ireturn, 1) := dz1 (k := 27) (m := 1) dzb0_cX10_hears_0 di_13 (Nat.zero_lt_succ _) rfl
theorem dX10_hears_28 : decode cX10_hears 28 = .ok (.iload_n 3, 1) := dz1 (k := 28) (m := 1) dzb0_cX10_hears_0 di_3 (Nat.zero_lt_succ _) rfl
theorem dX10_hears_29 : decode cX10_hears 29 = .ok (.iload_n 2, 1) := dz1 (k := 29) (m := 1) dzb0_cX10_hears_0 di_28 (Nat.zero_lt_succ _) rfl
theorem dX10_hears_30 : decode cX10_hears 30 = .ok (.if_icmp .eq 15, 3) := dz1 (k := 30) (m := 3) dzb0_cX10_hears_0 di_320 (Nat.zero_lt_succ _) rfl
set_option maxRecDepth 100000 in
theorem dzb0_cX10_hears_32 : DzLies cX10_hears (.mk ⟨[0x0f, 0x15, 0x04, 0x9b, 0x00, 0x0a, 0x15, 0x04, 0x10, 0x63, 0xa4, 0x00, 0x05, 0x02, 0xac, 0x2a, 0xb4, 0x00, 0x24, 0x1b, 0xb6, 0x00, 0x96, 0x1c, 0x1d, 0x15, 0x04, 0xb6, 0x00, 0xd3, 0xac]⟩) 32 := dz_lies (m := 31) (Nat.zero_lt_succ _) rfl
theorem dX10_hears_33 : decode cX10_hears 33 = .ok (.iload 4, 2) := dz1 (k := 1) (m := 2) dzb0_cX10_hears_32 di_52 (Nat.zero_lt_succ _) rfl
theorem dX10_hears_35 : decode cX10_hears 35 = .ok (.ifCond .lt 10, 3) := dz1 (k := 3) (m := 3) dzb0_cX10_hears_32 di_321 (Nat.zero_lt_succ _) rfl
theorem dX10_hears_38 : decode cX10_hears 38 = .ok (.iload 4, 2) := dz1 (k := 6) (m := 2) dzb0_cX10_hears_32 di_52 (Nat.zero_lt_succ _) rfl
theorem dX10_hears_40 : decode cX10_hears 40 = .ok (.bipush 99, 2) := dz1 (k := 8) (m := 2) dzb0_cX10_hears_32 di_322 (Nat.zero_lt_succ _) rfl
theorem dX10_hears_42 : decode cX10_hears 42 = .ok (.if_icmp .le 5, 3) := dz1 (k := 10) (m := 3) dzb0_cX10_hears_32 di_230 (Nat.zero_lt_succ _) rfl
theorem dX10_hears_45 : decode cX10_hears 45 = .ok (.iconst (-1), 1) := dz1 (k := 13) (m := 1) dzb0_cX10_hears_32 di_65 (Nat.zero_lt_succ _) rfl
theorem dX10_hears_46 : decode cX10_hears 46 = .ok (.ireturn, 1) := dz1 (k := 14) (m := 1) dzb0_cX10_hears_32 di_13 (Nat.zero_lt_succ _) rfl
theorem dX10_hears_47 : decode cX10_hears 47 = .ok (.aload_n 0, 1) := dz1 (k := 15) (m := 1) dzb0_cX10_hears_32 di_0 (Nat.zero_lt_succ _) rfl
theorem dX10_hears_48 : decode cX10_hears 48 = .ok (.getfield 36, 3) := dz1 (k := 16) (m := 3) dzb0_cX10_hears_32 di_205 (Nat.zero_lt_succ _) rfl
theorem dX10_hears_51 : decode cX10_hears 51 = .ok (.iload_n 1, 1) := dz1 (k := 19) (m := 1) dzb0_cX10_hears_32 di_11 (Nat.zero_lt_succ _) rfl
theorem dX10_hears_52 : decode cX10_hears 52 = .ok (.invokevirtual 150, 3) := dz1 (k := 20) (m := 3) dzb0_cX10_hears_32 di_279 (Nat.zero_lt_succ _) rfl
theorem dX10_hears_55 : decode cX10_hears 55 = .ok (.iload_n 2, 1) := dz1 (k := 23) (m := 1) dzb0_cX10_hears_32 di_28 (Nat.zero_lt_succ _) rfl
theorem dX10_hears_56 : decode cX10_hears 56 = .ok (.iload_n 3, 1) := dz1 (k := 24) (m := 1) dzb0_cX10_hears_32 di_3 (Nat.zero_lt_succ _) rfl
theorem dX10_hears_57 : decode cX10_hears 57 = .ok (.iload 4, 2) := dz1 (k := 25) (m := 2) dzb0_cX10_hears_32 di_52 (Nat.zero_lt_succ _) rfl
theorem dX10_hears_59 : decode cX10_hears 59 = .ok (.invokevirtual 211, 3) := dz1 (k := 27) (m := 3) dzb0_cX10_hears_32 di_323 (Nat.zero_lt_succ _) rfl
theorem dX10_hears_62 : decode cX10_hears 62 = .ok (.ireturn, 1) := dz1 (k := 30) (m := 1) dzb0_cX10_hears_32 di_13 (Nat.zero_lt_succ _) rfl
set_option maxRecDepth 100000 in
theorem dzb0_cX10_run_0 : DzLies cX10_run (.mk ⟨[0x2a, 0xb4, 0x00, 0x24, 0xb4, 0x00, 0x87, 0x9a, 0x00, 0x06, 0x10, 0xfc, 0xac, 0x2a, 0x1b, 0xb6, 0x00, 0x66, 0x3d, 0x1c, 0x99, 0x00, 0x05, 0x1c, 0xac, 0x2a, 0xb4, 0x00, 0x0e, 0x1b, 0x2e, 0x3e]⟩) 0 := dz_lies (m := 32) (Nat.zero_lt_succ _) rfl
theorem dX10_run_0 : decode cX10_run 0 = .ok (.aload_n 0, 1) := dz1 (k := 0) (m := 1) dzb0_cX10_run_0 di_0 (Nat.zero_lt_succ _) rfl
theorem dX10_run_1 : decode cX10_run 1 = .ok (.getfield 36, 3) := dz1 (k := 1) (m := 3) dzb0_cX10_run_0 di_205 (Nat.zero_lt_succ _) rfl
theorem dX10_run_4 : decode cX10_run 4 = .ok (.getfield 135, 3) := dz1 (k := 4) (m := 3) dzb0_cX10_run_0 di_270 (Nat.zero_lt_succ _) rfl
theorem dX10_run_7 : decode cX10_run 7 = .ok (.ifCond .ne 6, 3) := dz1 (k := 7) (m := 3) dzb0_cX10_run_0 di_308 (Nat.zero_lt_succ _) rfl
theorem dX10_run_10 : decode cX10_run 10 = .ok (.bipush (-4), 2) := dz1 (k := 10) (m := 2) dzb0_cX10_run_0 di_264 (Nat.zero_lt_succ _) rfl
theorem dX10_run_12 : decode cX10_run 12 = .ok (.ireturn, 1) := dz1 (k := 12) (m := 1) dzb0_cX10_run_0 di_13 (Nat.zero_lt_succ _) rfl
theorem dX10_run_13 : decode cX10_run 13 = .ok (.aload_n 0, 1) := dz1 (k := 13) (m := 1) dzb0_cX10_run_0 di_0 (Nat.zero_lt_succ _) rfl
theorem dX10_run_14 : decode cX10_run 14 = .ok (.iload_n 1, 1) := dz1 (k := 14) (m := 1) dzb0_cX10_run_0 di_11 (Nat.zero_lt_succ _) rfl
theorem dX10_run_15 : decode cX10_run 15 = .ok (.invokevirtual 102, 3) := dz1 (k := 15) (m := 3) dzb0_cX10_run_0 di_237 (Nat.zero_lt_succ _) rfl
theorem dX10_run_18 : decode cX10_run 18 = .ok (.istore_n 2, 1) := dz1 (k := 18) (m := 1) dzb0_cX10_run_0 di_27 (Nat.zero_lt_succ _) rfl
theorem dX10_run_19 : decode cX10_run 19 = .ok (.iload_n 2, 1) := dz1 (k := 19) (m := 1) dzb0_cX10_run_0 di_28 (Nat.zero_lt_succ _) rfl
theorem dX10_run_20 : decode cX10_run 20 = .ok (.ifCond .eq 5, 3) := dz1 (k := 20) (m := 3) dzb0_cX10_run_0 di_236 (Nat.zero_lt_succ _) rfl
theorem dX10_run_23 : decode cX10_run 23 = .ok (.iload_n 2, 1) := dz1 (k := 23) (m := 1) dzb0_cX10_run_0 di_28 (Nat.zero_lt_succ _) rfl
theorem dX10_run_24 : decode cX10_run 24 = .ok (.ireturn, 1) := dz1 (k := 24) (m := 1) dzb0_cX10_run_0 di_13 (Nat.zero_lt_succ _) rfl
theorem dX10_run_25 : decode cX10_run 25 = .ok (.aload_n 0, 1) := dz1 (k := 25) (m := 1) dzb0_cX10_run_0 di_0 (Nat.zero_lt_succ _) rfl
theorem dX10_run_26 : decode cX10_run 26 = .ok (.getfield 14, 3) := dz1 (k := 26) (m := 3) dzb0_cX10_run_0 di_220 (Nat.zero_lt_succ _) rfl
theorem dX10_run_29 : decode cX10_run 29 = .ok (.iload_n 1, 1) := dz1 (k := 29) (m := 1) dzb0_cX10_run_0 di_11 (Nat.zero_lt_succ _) rfl
theorem dX10_run_30 : decode cX10_run 30 = .ok (.iaload, 1) := dz1 (k := 30) (m := 1) dzb0_cX10_run_0 di_30 (Nat.zero_lt_succ _) rfl
theorem dX10_run_31 : decode cX10_run 31 = .ok (.istore_n 3, 1) := dz1 (k := 31) (m := 1) dzb0_cX10_run_0 di_50 (Nat.zero_lt_succ _) rfl
set_option maxRecDepth 100000 in
theorem dzb0_cX10_run_32 : DzLies cX10_run (.mk ⟨[0x1d, 0x10, 0x0c, 0xa4, 0x00, 0x09, 0x2a, 0x08, 0xb6, 0x00, 0x5b, 0xac, 0x03, 0x36, 0x04, 0x15, 0x04, 0x1d, 0xa2, 0x00, 0x1f, 0x2a, 0x2a, 0xb4, 0x00, 0x0b, 0x1b, 0x32, 0x15, 0x04, 0x2e, 0xb6, 0x00, 0xbc]⟩) 32 := dz_lies (m := 34) (Nat.zero_lt_succ _) rfl
theorem dX10_run_32 : decode cX10_run 32 = .ok (.iload_n 3, 1) := dz1 (k := 0) (m := 1) dzb0_cX10_run_32 di_3 (Nat.zero_lt_succ _) rfl
theorem dX10_run_33 : decode cX10_run 33 = .ok (.bipush 12, 2) := dz1 (k := 1) (m := 2) dzb0_cX10_run_32 di_126 (Nat.zero_lt_succ _) rfl
theorem dX10_run_35 : decode cX10_run 35 = .ok (.if_icmp .le 9, 3) := dz1 (k := 3) (m := 3) dzb0_cX10_run_32 di_324 (Nat.zero_lt_succ _) rfl
theorem dX10_run_38 : decode cX10_run 38 = .ok (.aload_n 0, 1) := dz1 (k := 6) (m := 1) dzb0_cX10_run_32 di_0 (Nat.zero_lt_succ _) rfl
theorem dX10_run_39 : decode cX10_run 39 = .ok (.iconst 5, 1) := dz1 (k := 7) (m := 1) dzb0_cX10_run_32 di_145 (Nat.zero_lt_succ _) rfl
theorem dX10_run_40 : decode cX10_run 40 = .ok (.invokevirtual 91, 3) := dz1 (k := 8) (m := 3) dzb0_cX10_run_32 di_232 (Nat.zero_lt_succ _) rfl
theorem dX10_run_43 : decode cX10_run 43 = .ok (.ireturn, 1) := dz1 (k := 11) (m := 1) dzb0_cX10_run_32 di_13 (Nat.zero_lt_succ _) rfl
theorem dX10_run_44 : decode cX10_run 44 = .ok (.iconst 0, 1) := dz1 (k := 12) (m := 1) dzb0_cX10_run_32 di_8 (Nat.zero_lt_succ _) rfl
theorem dX10_run_45 : decode cX10_run 45 = .ok (.istore 4, 2) := dz1 (k := 13) (m := 2) dzb0_cX10_run_32 di_51 (Nat.zero_lt_succ _) rfl
theorem dX10_run_47 : decode cX10_run 47 = .ok (.iload 4, 2) := dz1 (k := 15) (m := 2) dzb0_cX10_run_32 di_52 (Nat.zero_lt_succ _) rfl
theorem dX10_run_49 : decode cX10_run 49 = .ok (.iload_n 3, 1) := dz1 (k := 17) (m := 1) dzb0_cX10_run_32 di_3 (Nat.zero_lt_succ _) rfl
theorem dX10_run_50 : decode cX10_run 50 = .ok (.if_icmp .ge 31, 3) := dz1 (k := 18) (m := 3) dzb0_cX10_run_32 di_325 (Nat.zero_lt_succ _) rfl
theorem dX10_run_53 : decode cX10_run 53 = .ok (.aload_n 0, 1) := dz1 (k := 21) (m := 1) dzb0_cX10_run_32 di_0 (Nat.zero_lt_succ _) rfl
theorem dX10_run_54 : decode cX10_run 54 = .ok (.aload_n 0, 1) := dz1 (k := 22) (m := 1) dzb0_cX10_run_32 di_0 (Nat.zero_lt_succ _) rfl
theorem dX10_run_55 : decode cX10_run 55 = .ok (.getfield 11, 3) := dz1 (k := 23) (m := 3) dzb0_cX10_run_32 di_233 (Nat.zero_lt_succ _) rfl
theorem dX10_run_58 : decode cX10_run 58 = .ok (.iload_n 1, 1) := dz1 (k := 26) (m := 1) dzb0_cX10_run_32 di_11 (Nat.zero_lt_succ _) rfl
theorem dX10_run_59 : decode cX10_run 59 = .ok (.aaload, 1) := dz1 (k := 27) (m := 1) dzb0_cX10_run_32 di_130 (Nat.zero_lt_succ _) rfl
theorem dX10_run_60 : decode cX10_run 60 = .ok (.iload 4, 2) := dz1 (k := 28) (m := 2) dzb0_cX10_run_32 di_52 (Nat.zero_lt_succ _) rfl
theorem dX10_run_62 : decode cX10_run 62 = .ok (.iaload, 1) := dz1 (k := 30) (m := 1) dzb0_cX10_run_32 di_30 (Nat.zero_lt_succ _) rfl
theorem dX10_run_63 : decode cX10_run 63 = .ok (.invokevirtual 188, 3) := dz1 (k := 31) (m := 3) dzb0_cX10_run_32 di_305 (Nat.zero_lt_succ _) rfl
set_option maxRecDepth 100000 in
theorem dzb0_cX10_run_64 : DzLies cX10_run (.mk ⟨[0x00, 0xbc, 0x9a, 0x00, 0x09, 0x2a, 0x06, 0xb6, 0x00, 0x5b, 0xac, 0x84, 0x04, 0x01, 0xa7, 0xff, 0xe1, 0x2a, 0xb4, 0x00, 0x3c, 0x03, 0x32, 0x3a, 0x04, 0x19, 0x04, 0x2a, 0xb4, 0x00, 0x2d, 0xb6, 0x00, 0xd9]⟩) 64 := dz_lies (m := 34) (Nat.zero_lt_succ _) rfl
theorem dX10_run_66 : decode cX10_run 66 = .ok (.ifCond .ne 9, 3) := dz1 (k := 2) (m := 3) dzb0_cX10_run_64 di_243 (Nat.zero_lt_succ _) rfl
theorem dX10_run_69 : decode cX10_run 69 = .ok (.aload_n 0, 1) := dz1 (k := 5) (m := 1) dzb0_cX10_run_64 di_0 (Nat.zero_lt_succ _) rfl
theorem dX10_run_70 : decode cX10_run 70 = .ok (.iconst 3, 1) := dz1 (k := 6) (m := 1) dzb0_cX10_run_64 di_4 (Nat.zero_lt_succ _) rfl
theorem dX10_run_71 : decode cX10_run 71 = .ok (.invokevirtual 91, 3) := dz1 (k := 7) (m := 3) dzb0_cX10_run_64 di_232 (Nat.zero_lt_succ _) rfl
theorem dX10_run_74 : decode cX10_run 74 = .ok (.ireturn, 1) := dz1 (k := 10) (m := 1) dzb0_cX10_run_64 di_13 (Nat.zero_lt_succ _) rfl
theorem dX10_run_75 : decode cX10_run 75 = .ok (.iinc 4 1, 3) := dz1 (k := 11) (m := 3) dzb0_cX10_run_64 di_63 (Nat.zero_lt_succ _) rfl
theorem dX10_run_78 : decode cX10_run 78 = .ok (.goto (-31), 3) := dz1 (k := 14) (m := 3) dzb0_cX10_run_64 di_169 (Nat.zero_lt_succ _) rfl
theorem dX10_run_81 : decode cX10_run 81 = .ok (.aload_n 0, 1) := dz1 (k := 17) (m := 1) dzb0_cX10_run_64 di_0 (Nat.zero_lt_succ _) rfl
theorem dX10_run_82 : decode cX10_run 82 = .ok (.getfield 60, 3) := dz1 (k := 18) (m := 3) dzb0_cX10_run_64 di_227 (Nat.zero_lt_succ _) rfl
theorem dX10_run_85 : decode cX10_run 85 = .ok (.iconst 0, 1) := dz1 (k := 21) (m := 1) dzb0_cX10_run_64 di_8 (Nat.zero_lt_succ _) rfl
theorem dX10_run_86 : decode cX10_run 86 = .ok (.aaload, 1) := dz1 (k := 22) (m := 1) dzb0_cX10_run_64 di_130 (Nat.zero_lt_succ _) rfl
theorem dX10_run_87 : decode cX10_run 87 = .ok (.astore 4, 2) := dz1 (k := 23) (m := 2) dzb0_cX10_run_64 di_286 (Nat.zero_lt_succ _) rfl
theorem dX10_run_89 : decode cX10_run 89 = .ok (.aload 4, 2) := dz1 (k := 25) (m := 2) dzb0_cX10_run_64 di_287 (Nat.zero_lt_succ _) rfl
theorem dX10_run_91 : decode cX10_run 91 = .ok (.aload_n 0, 1) := dz1 (k := 27) (m := 1) dzb0_cX10_run_64 di_0 (Nat.zero_lt_succ _) rfl
theorem dX10_run_92 : decode cX10_run 92 = .ok (.getfield 45, 3) := dz1 (k := 28) (m := 3) dzb0_cX10_run_64 di_153 (Nat.zero_lt_succ _) rfl
theorem dX10_run_95 : decode cX10_run 95 = .ok (.invokevirtual 217, 3) := dz1 (k := 31) (m := 3) dzb0_cX10_run_64 di_326 (Nat.zero_lt_succ _) rfl
set_option maxRecDepth 100000 in
theorem dzb0_cX10_run_96 : DzLies cX10_run (.mk ⟨[0x00, 0xd9, 0x03, 0x36, 0x05, 0x15, 0x05, 0x1d, 0xa2, 0x00, 0x2b, 0x19, 0x04, 0x2a, 0xb4, 0x00, 0x0b, 0x1b, 0x32, 0x15, 0x05, 0x2e, 0xb6, 0x00, 0xbf, 0x99, 0x00, 0x1a, 0x19, 0x04, 0x2a, 0xb4, 0x00, 0x0b]⟩) 96 := dz_lies (m := 34) (Nat.zero_lt_succ _) rfl
theorem dX10_run_98 : decode cX10_run 98 = .ok (.iconst 0, 1) := dz1 (k := 2) (m := 1) dzb0_cX10_run_96 di_8 (Nat.zero_lt_succ _) rfl
theorem dX10_run_99 : decode cX10_run 99 = .ok (.istore 5, 2) := dz1 (k := 3) (m := 2) dzb0_cX10_run_96 di_100 (Nat.zero_lt_succ _) rfl
theorem dX10_run_101 : decode cX10_run 101 = .ok (.iload 5, 2) := dz1 (k := 5) (m := 2) dzb0_cX10_run_96 di_101 (Nat.zero_lt_succ _) rfl
theorem dX10_run_103 : decode cX10_run 103 = .ok (.iload_n 3, 1) := dz1 (k := 7) (m := 1) dzb0_cX10_run_96 di_3 (Nat.zero_lt_succ _) rfl
theorem dX10_run_104 : decode cX10_run 104 = .ok (.if_icmp .ge 43, 3) := dz1 (k := 8) (m := 3) dzb0_cX10_run_96 di_327 (Nat.zero_lt_succ _) rfl
theorem dX10_run_107 : decode cX10_run 107 = .ok (.aload 4, 2) := dz1 (k := 11) (m := 2) dzb0_cX10_run_96 di_287 (Nat.zero_lt_succ _) rfl
theorem dX10_run_109 : decode cX10_run 109 = .ok (.aload_n 0, 1) := dz1 (k := 13) (m := 1) dzb0_cX10_run_96 di_0 (Nat.zero_lt_succ _) rfl
theorem dX10_run_110 : decode cX10_run 110 = .ok (.getfield 11, 3) := dz1 (k := 14) (m := 3) dzb0_cX10_run_96 di_233 (Nat.zero_lt_succ _) rfl
theorem dX10_run_113 : decode cX10_run 113 = .ok (.iload_n 1, 1) := dz1 (k := 17) (m := 1) dzb0_cX10_run_96 di_11 (Nat.zero_lt_succ _) rfl
theorem dX10_run_114 : decode cX10_run 114 = .ok (.aaload, 1) := dz1 (k := 18) (m := 1) dzb0_cX10_run_96 di_130 (Nat.zero_lt_succ _) rfl
theorem dX10_run_115 : decode cX10_run 115 = .ok (.iload 5, 2) := dz1 (k := 19) (m := 2) dzb0_cX10_run_96 di_101 (Nat.zero_lt_succ _) rfl
theorem dX10_run_117 : decode cX10_run 117 = .ok (.iaload, 1) := dz1 (k := 21) (m := 1) dzb0_cX10_run_96 di_30 (Nat.zero_lt_succ _) rfl
theorem dX10_run_118 : decode cX10_run 118 = .ok (.invokevirtual 191, 3) := dz1 (k := 22) (m := 3) dzb0_cX10_run_96 di_307 (Nat.zero_lt_succ _) rfl
theorem dX10_run_121 : decode cX10_run 121 = .ok (.ifCond .eq 26, 3) := dz1 (k := 25) (m := 3) dzb0_cX10_run_96 di_328 (Nat.zero_lt_succ _) rfl
theorem dX10_run_124 : decode cX10_run 124 = .ok (.aload 4, 2) := dz1 (k := 28) (m := 2) dzb0_cX10_run_96 di_287 (Nat.zero_lt_succ _) rfl
theorem dX10_run_126 : decode cX10_run 126 = .ok (.aload_n 0, 1) := dz1 (k := 30) (m := 1) dzb0_cX10_run_96 di_0 (Nat.zero_lt_succ _) rfl
theorem dX10_run_127 : decode cX10_run 127 = .ok (.getfield 11, 3) := dz1 (k := 31) (m := 3) dzb0_cX10_run_96 di_233 (Nat.zero_lt_succ _) rfl
set_option maxRecDepth 100000 in
theorem dzb0_cX10_run_128 : DzLies cX10_run (.mk ⟨[0x00, 0x0b, 0x1b, 0x32, 0x15, 0x05, 0x2e, 0x10, 0x0f, 0xb6, 0x00, 0xdc, 0x57, 0x84, 0x05, 0x01, 0xa7, 0xff, 0xd5, 0x2a, 0x15, 0x05, 0xb5, 0x00, 0x63, 0x19, 0x04, 0xb4, 0x00, 0xdf, 0xac]⟩) 128 := dz_lies (m := 31) (Nat.zero_lt_succ _) rfl
theorem dX10_run_130 : decode cX10_run 130 = .ok (.iload_n 1, 1) := dz1 (k := 2) (m := 1) dzb0_cX10_run_128 di_11 (Nat.zero_lt_succ _) rfl
theorem dX10_run_131 : decode cX10_run 131 = .ok (.aaload, 1) := dz1 (k := 3) (m := 1) dzb0_cX10_run_128 di_130 (Nat.zero_lt_succ _) rfl
theorem dX10_run_132 : decode cX10_run 132 = .ok (.iload 5, 2) := dz1 (k := 4) (m := 2) dzb0_cX10_run_128 di_101 (Nat.zero_lt_succ _) rfl
theorem dX10_run_134 : decode cX10_run 134 = .ok (.iaload, 1) := dz1 (k := 6) (m := 1) dzb0_cX10_run_128 di_30 (Nat.zero_lt_succ _) rfl
theorem dX10_run_135 : decode cX10_run 135 = .ok (.bipush 15, 2) := dz1 (k := 7) (m := 2) dzb0_cX10_run_128 di_329 (Nat.zero_lt_succ _) rfl
theorem dX10_run_137 : decode cX10_run 137 = .ok (.invokevirtual 220, 3) := dz1 (k := 9) (m := 3) dzb0_cX10_run_128 di_330 (Nat.zero_lt_succ _) rfl
theorem dX10_run_140 : decode cX10_run 140 = .ok (.pop, 1) := dz1 (k := 12) (m := 1) dzb0_cX10_run_128 di_331 (Nat.zero_lt_succ _) rfl
theorem dX10_run_141 : decode cX10_run 141 = .ok (.iinc 5 1, 3) := dz1 (k := 13) (m := 3) dzb0_cX10_run_128 di_131 (Nat.zero_lt_succ _) rfl
theorem dX10_run_144 : decode cX10_run 144 = .ok (.goto (-43), 3) := dz1 (k := 16) (m := 3) dzb0_cX10_run_128 di_332 (Nat.zero_lt_succ _) rfl
theorem dX10_run_147 : decode cX10_run 147 = .ok (.aload_n 0, 1) := dz1 (k := 19) (m := 1) dzb0_cX10_run_128 di_0 (Nat.zero_lt_succ _) rfl
theorem dX10_run_148 : decode cX10_run 148 = .ok (.iload 5, 2) := dz1 (k := 20) (m := 2) dzb0_cX10_run_128 di_101 (Nat.zero_lt_succ _) rfl
theorem dX10_run_150 : decode cX10_run 150 = .ok (.putfield 99, 3) := dz1 (k := 22) (m := 3) dzb0_cX10_run_128 di_235 (Nat.zero_lt_succ _) rfl
theorem dX10_run_153 : decode cX10_run 153 = .ok (.aload 4, 2) := dz1 (k := 25) (m := 2) dzb0_cX10_run_128 di_287 (Nat.zero_lt_succ _) rfl
theorem dX10_run_155 : decode cX10_run 155 = .ok (.getfield 223, 3) := dz1 (k := 27) (m := 3) dzb0_cX10_run_128 di_333 (Nat.zero_lt_succ _) rfl
theorem dX10_run_158 : decode cX10_run 158 = .ok (.ireturn, 1) := dz1 (k := 30) (m := 1) dzb0_cX10_run_128 di_13 (Nat.zero_lt_succ _) rfl
set_option maxRecDepth 100000 in
theorem dzb0_cX10_safe_0 : DzLies cX10_safe (.mk ⟨[0x2a, 0xb4, 0x00, 0x24, 0xb4, 0x00, 0x87, 0x9a, 0x00, 0x06, 0x10, 0xfc, 0xac, 0x03, 0x3c, 0x03, 0x3d, 0x03, 0x3e, 0x2a, 0xb4, 0x00, 0x3c, 0x03, 0x32, 0x2a, 0xb4, 0x00, 0x2d, 0xb6, 0x00, 0xd9]⟩) 0 := dz_lies (m := 32) (Nat.zero_lt_succ _) rfl
theorem dX10_safe_0 : decode cX10_safe 0 = .ok (.aload_n 0, 1) := dz1 (k := 0) (m := 1) dzb0_cX10_safe_0 di_0 (Nat.zero_lt_succ _) rfl
theorem dX10_safe_1 : decode cX10_safe 1 = .ok (.getfield 36, 3) := dz1 (k := 1) (m := 3) dzb0_cX10_safe_0 di_205 (Nat.zero_lt_succ _) rfl
theorem dX10_safe_4 : decode cX10_safe 4 = .ok (.getfield 135, 3) := dz1 (k := 4) (m := 3) dzb0_cX10_safe_0 di_270 (Nat.zero_lt_succ _) rfl
theorem dX10_safe_7 : decode cX10_safe 7 = .ok (.ifCond .ne 6, 3) := dz1 (k := 7) (m := 3) dzb0_cX10_safe_0 di_308 (Nat.zero_lt_succ _) rfl
theorem dX10_safe_10 : decode cX10_safe 10 = .ok (.bipush (-4), 2) := dz1 (k := 10) (m := 2) dzb0_cX10_safe_0 di_264 (Nat.zero_lt_succ _) rfl
theorem dX10_safe_12 : decode cX10_safe 12 = .ok (.ireturn, 1) := dz1 (k := 12) (m := 1) dzb0_cX10_safe_0 di_13 (Nat.zero_lt_succ _) rfl
theorem dX10_safe_13 : decode cX10_safe 13 = .ok (.iconst 0, 1) := dz1 (k := 13) (m := 1) dzb0_cX10_safe_0 di_8 (Nat.zero_lt_succ _) rfl
theorem dX10_safe_14 : decode cX10_safe 14 = .ok (.istore_n 1, 1) := dz1 (k := 14) (m := 1) dzb0_cX10_safe_0 di_68 (Nat.zero_lt_succ _) rfl
theorem dX10_safe_15 : decode cX10_safe 15 = .ok (.iconst 0, 1) := dz1 (k := 15) (m := 1) dzb0_cX10_safe_0 di_8 (Nat.zero_lt_succ _) rfl
theorem dX10_safe_16 : decode cX10_safe 16 = .ok (.istore_n 2, 1) := dz1 (k := 16) (m := 1) dzb0_cX10_safe_0 di_27 (Nat.zero_lt_succ _) rfl
theorem dX10_safe_17 : decode cX10_safe 17 = .ok (.iconst 0, 1) := dz1 (k := 17) (m := 1) dzb0_cX10_safe_0 di_8 (Nat.zero_lt_succ _) rfl
theorem dX10_safe_18 : decode cX10_safe 18 = .ok (.istore_n 3, 1) := dz1 (k := 18) (m := 1) dzb0_cX10_safe_0 di_50 (Nat.zero_lt_succ _) rfl
theorem dX10_safe_19 : decode cX10_safe 19 = .ok (.aload_n 0, 1) := dz1 (k := 19) (m := 1) dzb0_cX10_safe_0 di_0 (Nat.zero_lt_succ _) rfl
theorem dX10_safe_20 : decode cX10_safe 20 = .ok (.getfield 60, 3) := dz1 (k := 20) (m := 3) dzb0_cX10_safe_0 di_227 (Nat.zero_lt_succ _) rfl
theorem dX10_safe_23 : decode cX10_safe 23 = .ok (.iconst 0, 1) := dz1 (k := 23) (m := 1) dzb0_cX10_safe_0 di_8 (Nat.zero_lt_succ _) rfl
theorem dX10_safe_24 : decode cX10_safe 24 = .ok (.aaload, 1) := dz1 (k := 24) (m := 1) dzb0_cX10_safe_0 di_130 (Nat.zero_lt_succ _) rfl
theorem dX10_safe_25 : decode cX10_safe 25 = .ok (.aload_n 0, 1) := dz1 (k := 25) (m := 1) dzb0_cX10_safe_0 di_0 (Nat.zero_lt_succ _) rfl
theorem dX10_safe_26 : decode cX10_safe 26 = .ok (.getfield 45, 3) := dz1 (k := 26) (m := 3) dzb0_cX10_safe_0 di_153 (Nat.zero_lt_succ _) rfl
theorem dX10_safe_29 : decode cX10_safe 29 = .ok (.invokevirtual 217, 3) := dz1 (k := 29) (m := 3) dzb0_cX10_safe_0 di_326 (Nat.zero_lt_succ _) rfl
set_option maxRecDepth 100000 in
theorem dzb0_cX10_safe_32 : DzLies cX10_safe (.mk ⟨[0x04, 0x36, 0x04, 0x15, 0x04, 0x10, 0x0c, 0xa3, 0x00, 0x47, 0x2a, 0xb4, 0x00, 0x2d, 0x15, 0x04, 0xb6, 0x00, 0xbf, 0x99, 0x00, 0x35, 0x2a, 0x03, 0x15, 0x04, 0x10, 0x0f, 0xb6, 0x00, 0xe2, 0xb8, 0x00, 0xe5]⟩) 32 := dz_lies (m := 34) (Nat.zero_lt_succ _) rfl
theorem dX10_safe_32 : decode cX10_safe 32 = .ok (.iconst 1, 1) := dz1 (k := 0) (m := 1) dzb0_cX10_safe_32 di_10 (Nat.zero_lt_succ _) rfl
theorem dX10_safe_33 : decode cX10_safe 33 = .ok (.istore 4, 2) := dz1 (k := 1) (m := 2) dzb0_cX10_safe_32 di_51 (Nat.zero_lt_succ _) rfl
theorem dX10_safe_35 : decode cX10_safe 35 = .ok (.iload 4, 2) := dz1 (k := 3) (m := 2) dzb0_cX10_safe_32 di_52 (Nat.zero_lt_succ _) rfl
theorem dX10_safe_37 : decode cX10_safe 37 = .ok (.bipush 12, 2) := dz1 (k := 5) (m := 2) dzb0_cX10_safe_32 di_126 (Nat.zero_lt_succ _) rfl
theorem dX10_safe_39 : decode cX10_safe 39 = .ok (.if_icmp .gt 71, 3) := dz1 (k := 7) (m := 3) dzb0_cX10_safe_32 di_334 (Nat.zero_lt_succ _) rfl
theorem dX10_safe_42 : decode cX10_safe 42 = .ok (.aload_n 0, 1) := dz1 (k := 10) (m := 1) dzb0_cX10_safe_32 di_0 (Nat.zero_lt_succ _) rfl
theorem dX10_safe_43 : decode cX10_safe 43 = .ok (.getfield 45, 3) := dz1 (k := 11) (m := 3) dzb0_cX10_safe_32 di_153 (Nat.zero_lt_succ _) rfl
theorem dX10_safe_46 : decode cX10_safe 46 = .ok (.iload 4, 2) := dz1 (k := 14) (m := 2) dzb0_cX10_safe_32 di_52 (Nat.zero_lt_succ _) rfl
theorem dX10_safe_48 : decode cX10_safe 48 = .ok (.invokevirtual 191, 3) := dz1 (k := 16) (m := 3) dzb0_cX10_safe_32 di_307 (Nat.zero_lt_succ _) rfl
theorem dX10_safe_51 : decode cX10_safe 51 = .ok (.ifCond .eq 53, 3) := dz1 (k := 19) (m := 3) dzb0_cX10_safe_32 di_335 (Nat.zero_lt_succ _) rfl
theorem dX10_safe_54 : decode cX10_safe 54 = .ok (.aload_n 0, 1) := dz1 (k := 22) (m := 1) dzb0_cX10_safe_32 di_0 (Nat.zero_lt_succ _) rfl
theorem dX10_safe_55 : decode cX10_safe 55 = .ok (.iconst 0, 1) := dz1 (k := 23) (m := 1) dzb0_cX10_safe_32 di_8 (Nat.zero_lt_succ _) rfl
theorem dX10_safe_56 : decode cX10_safe 56 = .ok (.iload 4, 2) := dz1 (k := 24) (m := 2) dzb0_cX10_safe_32 di_52 (Nat.zero_lt_succ _) rfl
theorem dX10_safe_58 : decode cX10_safe 58 = .ok (.bipush 15, 2) := dz1 (k := 26) (m := 2) dzb0_cX10_safe_32 di_329 (Nat.zero_lt_succ _) rfl
theorem dX10_safe_60 : decode cX10_safe 60 = .ok (.invokevirtual 226, 3) := dz1 (k := 28) (m := 3) dzb0_cX10_safe_32 di_336 (Nat.zero_lt_succ _) rfl
theorem dX10_safe_63 : decode cX10_safe 63 = .ok (.invokestatic 229, 3) := dz1 (k := 31) (m := 3) dzb0_cX10_safe_32 di_337 (Nat.zero_lt_succ _) rfl
set_option maxRecDepth 100000 in
theorem dzb0_cX10_safe_64 : DzLies cX10_safe (.mk ⟨[0x00, 0xe5, 0x36, 0x05, 0x15, 0x05, 0x9a, 0x00, 0x0a, 0x1b, 0x04, 0x15, 0x04, 0x78, 0x80, 0x3c, 0x15, 0x05, 0x1c, 0xa4, 0x00, 0x08, 0x15, 0x05, 0x3d, 0x03, 0x3e, 0x15, 0x05, 0x1c, 0xa0, 0x00, 0x0a]⟩) 64 := dz_lies (m := 33) (Nat.zero_lt_succ _) rfl
theorem dX10_safe_66 : decode cX10_safe 66 = .ok (.istore 5, 2) := dz1 (k := 2) (m := 2) dzb0_cX10_safe_64 di_100 (Nat.zero_lt_succ _) rfl
theorem dX10_safe_68 : decode cX10_safe 68 = .ok (.iload 5, 2) := dz1 (k := 4) (m := 2) dzb0_cX10_safe_64 di_101 (Nat.zero_lt_succ _) rfl
theorem dX10_safe_70 : decode cX10_safe 70 = .ok (.ifCond .ne 10, 3) := dz1 (k := 6) (m := 3) dzb0_cX10_safe_64 di_338 (Nat.zero_lt_succ _) rfl
theorem dX10_safe_73 : decode cX10_safe 73 = .ok (.iload_n 1, 1) := dz1 (k := 9) (m := 1) dzb0_cX10_safe_64 di_11 (Nat.zero_lt_succ _) rfl
theorem dX10_safe_74 : decode cX10_safe 74 = .ok (.iconst 1, 1) := dz1 (k := 10) (m := 1) dzb0_cX10_safe_64 di_10 (Nat.zero_lt_succ _) rfl
theorem dX10_safe_75 : decode cX10_safe 75 = .ok (.iload 4, 2) := dz1 (k := 11) (m := 2) dzb0_cX10_safe_64 di_52 (Nat.zero_lt_succ _) rfl
theorem dX10_safe_77 : decode cX10_safe 77 = .ok (.ishl, 1) := dz1 (k := 13) (m := 1) dzb0_cX10_safe_64 di_12 (Nat.zero_lt_succ _) rfl
theorem dX10_safe_78 : decode cX10_safe 78 = .ok (.ior, 1) := dz1 (k := 14) (m := 1) dzb0_cX10_safe_64 di_62 (Nat.zero_lt_succ _) rfl
theorem dX10_safe_79 : decode cX10_safe 79 = .ok (.istore_n 1, 1) := dz1 (k := 15) (m := 1) dzb0_cX10_safe_64 di_68 (Nat.zero_lt_succ _) rfl
theorem dX10_safe_80 : decode cX10_safe 80 = .ok (.iload 5, 2) := dz1 (k := 16) (m := 2) dzb0_cX10_safe_64 di_101 (Nat.zero_lt_succ _) rfl
theorem dX10_safe_82 : decode cX10_safe 82 = .ok (.iload_n 2, 1) := dz1 (k := 18) (m := 1) dzb0_cX10_safe_64 di_28 (Nat.zero_lt_succ _) rfl
theorem dX10_safe_83 : decode cX10_safe 83 = .ok (.if_icmp .le 8, 3) := dz1 (k := 19) (m := 3) dzb0_cX10_safe_64 di_339 (Nat.zero_lt_succ _) rfl
theorem dX10_safe_86 : decode cX10_safe 86 = .ok (.iload 5, 2) := dz1 (k := 22) (m := 2) dzb0_cX10_safe_64 di_101 (Nat.zero_lt_succ _) rfl
theorem dX10_safe_88 : decode cX10_safe 88 = .ok (.istore_n 2, 1) := dz1 (k := 24) (m := 1) dzb0_cX10_safe_64 di_27 (Nat.zero_lt_succ _) rfl
theorem dX10_safe_89 : decode cX10_safe 89 = .ok (.iconst 0, 1) := dz1 (k := 25) (m := 1) dzb0_cX10_safe_64 di_8 (Nat.zero_lt_succ _) rfl
theorem dX10_safe_90 : decode cX10_safe 90 = .ok (.istore_n 3, 1) := dz1 (k := 26) (m := 1) dzb0_cX10_safe_64 di_50 (Nat.zero_lt_succ _) rfl
theorem dX10_safe_91 : decode cX10_safe 91 = .ok (.iload 5, 2) := dz1 (k := 27) (m := 2) dzb0_cX10_safe_64 di_101 (Nat.zero_lt_succ _) rfl
theorem dX10_safe_93 : decode cX10_safe 93 = .ok (.iload_n 2, 1) := dz1 (k := 29) (m := 1) dzb0_cX10_safe_64 di_28 (Nat.zero_lt_succ _) rfl
theorem dX10_safe_94 : decode cX10_safe 94 = .ok (.if_icmp .ne 10, 3) := dz1 (k := 30) (m := 3) dzb0_cX10_safe_64 di_340 (Nat.zero_lt_succ _) rfl
set_option maxRecDepth 100000 in
theorem dzb0_cX10_safe_96 : DzLies cX10_safe (.mk ⟨[0x0a, 0x1d, 0x04, 0x15, 0x04, 0x78, 0x80, 0x3e, 0x84, 0x04, 0x01, 0xa7, 0xff, 0xb8, 0x2a, 0x1d, 0xb5, 0x00, 0x63, 0x1b, 0xac]⟩) 96 := dz_lies (m := 21) (Nat.zero_lt_succ _) rfl
theorem dX10_safe_97 : decode cX10_safe 97 = .ok (.iload_n 3, 1) := dz1 (k := 1) (m := 1) dzb0_cX10_safe_96 di_3 (Nat.zero_lt_succ _) rfl
theorem dX10_safe_98 : decode cX10_safe 98 = .ok (.iconst 1, 1) := dz1 (k := 2) (m := 1) dzb0_cX10_safe_96 di_10 (Nat.zero_lt_succ _) rfl
theorem dX10_safe_99 : decode cX10_safe 99 = .ok (.iload 4, 2) := dz1 (k := 3) (m := 2) dzb0_cX10_safe_96 di_52 (Nat.zero_lt_succ _) rfl
theorem dX10_safe_101 : decode cX10_safe 101 = .ok (.ishl, 1) := dz1 (k := 5) (m := 1) dzb0_cX10_safe_96 di_12 (Nat.zero_lt_succ _) rfl
theorem dX10_safe_102 : decode cX10_safe 102 = .ok (.ior, 1) := dz1 (k := 6) (m := 1) dzb0_cX10_safe_96 di_62 (Nat.zero_lt_succ _) rfl
theorem dX10_safe_103 : decode cX10_safe 103 = .ok (.istore_n 3, 1) := dz1 (k := 7) (m := 1) dzb0_cX10_safe_96 di_50 (Nat.zero_lt_succ _) rfl
theorem dX10_safe_104 : decode cX10_safe 104 = .ok (.iinc 4 1, 3) := dz1 (k := 8) (m := 3) dzb0_cX10_safe_96 di_63 (Nat.zero_lt_succ _) rfl
theorem dX10_safe_107 : decode cX10_safe 107 = .ok (.goto (-72), 3) := dz1 (k := 11) (m := 3) dzb0_cX10_safe_96 di_341 (Nat.zero_lt_succ _) rfl
theorem dX10_safe_110 : decode cX10_safe 110 = .ok (.aload_n 0, 1) := dz1 (k := 14) (m := 1) dzb0_cX10_safe_96 di_0 (Nat.zero_lt_succ _) rfl
theorem dX10_safe_111 : decode cX10_safe 111 = .ok (.iload_n 3, 1) := dz1 (k := 15) (m := 1) dzb0_cX10_safe_96 di_3 (Nat.zero_lt_succ _) rfl
theorem dX10_safe_112 : decode cX10_safe 112 = .ok (.putfield 99, 3) := dz1 (k := 16) (m := 3) dzb0_cX10_safe_96 di_235 (Nat.zero_lt_succ _) rfl
theorem dX10_safe_115 : decode cX10_safe 115 = .ok (.iload_n 1, 1) := dz1 (k := 19) (m := 1) dzb0_cX10_safe_96 di_11 (Nat.zero_lt_succ _) rfl
theorem dX10_safe_116 : decode cX10_safe 116 = .ok (.ireturn, 1) := dz1 (k := 20) (m := 1) dzb0_cX10_safe_96 di_13 (Nat.zero_lt_succ _) rfl
set_option maxRecDepth 100000 in
theorem dzb0_cX10_fewest_0 : DzLies cX10_fewest (.mk ⟨[0x2a, 0x1b, 0xb6, 0x00, 0x8a, 0x99, 0x00, 0x0b, 0x2a, 0x1c, 0xb6, 0x00, 0x57, 0x9a, 0x00, 0x05, 0x02, 0xac, 0x2a, 0x07, 0xb6, 0x00, 0xea, 0x3e, 0x03, 0x36, 0x04, 0x15, 0x04, 0x1d, 0xa3, 0x00, 0x1e]⟩) 0 := dz_lies (m := 33) (Nat.zero_lt_succ _) rfl
theorem dX10_fewest_0 : decode cX10_fewest 0 = .ok (.aload_n 0, 1) := dz1 (k := 0) (m := 1) dzb0_cX10_fewest_0 di_0 (Nat.zero_lt_succ _) rfl
theorem dX10_fewest_1 : decode cX10_fewest 1 = .ok (.iload_n 1, 1) := dz1 (k := 1) (m := 1) dzb0_cX10_fewest_0 di_11 (Nat.zero_lt_succ _) rfl
theorem dX10_fewest_2 : decode cX10_fewest 2 = .ok (.invokevirtual 138, 3) := dz1 (k := 2) (m := 3) dzb0_cX10_fewest_0 di_271 (Nat.zero_lt_succ _) rfl
theorem dX10_fewest_5 : decode cX10_fewest 5 = .ok (.ifCond .eq 11, 3) := dz1 (k := 5) (m := 3) dzb0_cX10_fewest_0 di_238 (Nat.zero_lt_succ _) rfl
theorem dX10_fewest_8 : decode cX10_fewest 8 = .ok (.aload_n 0, 1) := dz1 (k := 8) (m := 1) dzb0_cX10_fewest_0 di_0 (Nat.zero_lt_succ _) rfl
theorem dX10_fewest_9 : decode cX10_fewest 9 = .ok (.iload_n 2, 1) := dz1 (k := 9) (m := 1) dzb0_cX10_fewest_0 di_28 (Nat.zero_lt_succ _) rfl
theorem dX10_fewest_10 : decode cX10_fewest 10 = .ok (.invokevirtual 87, 3) := dz1 (k := 10) (m := 3) dzb0_cX10_fewest_0 di_228 (Nat.zero_lt_succ _) rfl
theorem dX10_fewest_13 : decode cX10_fewest 13 = .ok (.ifCond .ne 5, 3) := dz1 (k := 13) (m := 3) dzb0_cX10_fewest_0 di_239 (Nat.zero_lt_succ _) rfl
theorem dX10_fewest_16 : decode cX10_fewest 16 = .ok (.iconst (-1), 1) := dz1 (k := 16) (m := 1) dzb0_cX10_fewest_0 di_65 (Nat.zero_lt_succ _) rfl
theorem dX10_fewest_17 : decode cX10_fewest 17 = .ok (.ireturn, 1) := dz1 (k := 17) (m := 1) dzb0_cX10_fewest_0 di_13 (Nat.zero_lt_succ _) rfl
theorem dX10_fewest_18 : decode cX10_fewest 18 = .ok (.aload_n 0, 1) := dz1 (k := 18) (m := 1) dzb0_cX10_fewest_0 di_0 (Nat.zero_lt_succ _) rfl
theorem dX10_fewest_19 : decode cX10_fewest 19 = .ok (.iconst 4, 1) := dz1 (k := 19) (m := 1) dzb0_cX10_fewest_0 di_33 (Nat.zero_lt_succ _) rfl
theorem dX10_fewest_20 : decode cX10_fewest 20 = .ok (.invokevirtual 234, 3) := dz1 (k := 20) (m := 3) dzb0_cX10_fewest_0 di_342 (Nat.zero_lt_succ _) rfl
theorem dX10_fewest_23 : decode cX10_fewest 23 = .ok (.istore_n 3, 1) := dz1 (k := 23) (m := 1) dzb0_cX10_fewest_0 di_50 (Nat.zero_lt_succ _) rfl
theorem dX10_fewest_24 : decode cX10_fewest 24 = .ok (.iconst 0, 1) := dz1 (k := 24) (m := 1) dzb0_cX10_fewest_0 di_8 (Nat.zero_lt_succ _) rfl
theorem dX10_fewest_25 : decode cX10_fewest 25 = .ok (.istore 4, 2) := dz1 (k := 25) (m := 2) dzb0_cX10_fewest_0 di_51 (Nat.zero_lt_succ _) rfl
theorem dX10_fewest_27 : decode cX10_fewest 27 = .ok (.iload 4, 2) := dz1 (k := 27) (m := 2) dzb0_cX10_fewest_0 di_52 (Nat.zero_lt_succ _) rfl
theorem dX10_fewest_29 : decode cX10_fewest 29 = .ok (.iload_n 3, 1) := dz1 (k := 29) (m := 1) dzb0_cX10_fewest_0 di_3 (Nat.zero_lt_succ _) rfl
theorem dX10_fewest_30 : decode cX10_fewest 30 = .ok (.if_icmp .gt 30, 3) := dz1 (k := 30) (m := 3) dzb0_cX10_fewest_0 di_343 (Nat.zero_lt_succ _) rfl
set_option maxRecDepth 100000 in
theorem dzb0_cX10_fewest_32 : DzLies cX10_fewest (.mk ⟨[0x1e, 0x2a, 0x1b, 0x03, 0x15, 0x04, 0xb6, 0x00, 0xed, 0x99, 0x00, 0x0d, 0x2a, 0x1c, 0x15, 0x04, 0xb6, 0x00, 0xf0, 0x15, 0x04, 0xac, 0x84, 0x04, 0x01, 0xa7, 0xff, 0xe2, 0x10, 0xf7, 0xac]⟩) 32 := dz_lies (m := 31) (Nat.zero_lt_succ _) rfl
theorem dX10_fewest_33 : decode cX10_fewest 33 = .ok (.aload_n 0, 1) := dz1 (k := 1) (m := 1) dzb0_cX10_fewest_32 di_0 (Nat.zero_lt_succ _) rfl
theorem dX10_fewest_34 : decode cX10_fewest 34 = .ok (.iload_n 1, 1) := dz1 (k := 2) (m := 1) dzb0_cX10_fewest_32 di_11 (Nat.zero_lt_succ _) rfl
theorem dX10_fewest_35 : decode cX10_fewest 35 = .ok (.iconst 0, 1) := dz1 (k := 3) (m := 1) dzb0_cX10_fewest_32 di_8 (Nat.zero_lt_succ _) rfl
theorem dX10_fewest_36 : decode cX10_fewest 36 = .ok (.iload 4, 2) := dz1 (k := 4) (m := 2) dzb0_cX10_fewest_32 di_52 (Nat.zero_lt_succ _) rfl
theorem dX10_fewest_38 : decode cX10_fewest 38 = .ok (.invokevirtual 237, 3) := dz1 (k := 6) (m := 3) dzb0_cX10_fewest_32 di_344 (Nat.zero_lt_succ _) rfl
theorem dX10_fewest_41 : decode cX10_fewest 41 = .ok (.ifCond .eq 13, 3) := dz1 (k := 9) (m := 3) dzb0_cX10_fewest_32 di_277 (Nat.zero_lt_succ _) rfl
theorem dX10_fewest_44 : decode cX10_fewest 44 = .ok (.aload_n 0, 1) := dz1 (k := 12) (m := 1) dzb0_cX10_fewest_32 di_0 (Nat.zero_lt_succ _) rfl
theorem dX10_fewest_45 : decode cX10_fewest 45 = .ok (.iload_n 2, 1) := dz1 (k := 13) (m := 1) dzb0_cX10_fewest_32 di_28 (Nat.zero_lt_succ _) rfl
theorem dX10_fewest_46 : decode cX10_fewest 46 = .ok (.iload 4, 2) := dz1 (k := 14) (m := 2) dzb0_cX10_fewest_32 di_52 (Nat.zero_lt_succ _) rfl
theorem dX10_fewest_48 : decode cX10_fewest 48 = .ok (.invokevirtual 240, 3) := dz1 (k := 16) (m := 3) dzb0_cX10_fewest_32 di_345 (Nat.zero_lt_succ _) rfl
theorem dX10_fewest_51 : decode cX10_fewest 51 = .ok (.iload 4, 2) := dz1 (k := 19) (m := 2) dzb0_cX10_fewest_32 di_52 (Nat.zero_lt_succ _) rfl
theorem dX10_fewest_53 : decode cX10_fewest 53 = .ok (.ireturn, 1) := dz1 (k := 21) (m := 1) dzb0_cX10_fewest_32 di_13 (Nat.zero_lt_succ _) rfl
theorem dX10_fewest_54 : decode cX10_fewest 54 = .ok (.iinc 4 1, 3) := dz1 (k := 22) (m := 3) dzb0_cX10_fewest_32 di_63 (Nat.zero_lt_succ _) rfl
theorem dX10_fewest_57 : decode cX10_fewest 57 = .ok (.goto (-30), 3) := dz1 (k := 25) (m := 3) dzb0_cX10_fewest_32 di_346 (Nat.zero_lt_succ _) rfl
theorem dX10_fewest_60 : decode cX10_fewest 60 = .ok (.bipush (-9), 2) := dz1 (k := 28) (m := 2) dzb0_cX10_fewest_32 di_102 (Nat.zero_lt_succ _) rfl
theorem dX10_fewest_62 : decode cX10_fewest 62 = .ok (.ireturn, 1) := dz1 (k := 30) (m := 1) dzb0_cX10_fewest_32 di_13 (Nat.zero_lt_succ _) rfl
set_option maxRecDepth 100000 in
theorem dzb0_cX10_most_0 : DzLies cX10_most (.mk ⟨[0x1b, 0x9b, 0x00, 0x10, 0x1b, 0x07, 0xa3, 0x00, 0x0b, 0x2a, 0x1c, 0xb6, 0x00, 0x57, 0x9a, 0x00, 0x05, 0x02, 0xac, 0x2a, 0xb4, 0x00, 0x24, 0xb4, 0x00, 0x87, 0x9a, 0x00, 0x06, 0x10, 0xfc, 0xac]⟩) 0 := dz_lies (m := 32) (Nat.zero_lt_succ _) rfl
theorem dX10_most_0 : decode cX10_most 0 = .ok (.iload_n 1, 1) := dz1 (k := 0) (m := 1) dzb0_cX10_most_0 di_11 (Nat.zero_lt_succ _) rfl
theorem dX10_most_1 : decode cX10_most 1 = .ok (.ifCond .lt 16, 3) := dz1 (k := 1) (m := 3) dzb0_cX10_most_0 di_347 (Nat.zero_lt_succ _) rfl
theorem dX10_most_4 : decode cX10_most 4 = .ok (.iload_n 1, 1) := dz1 (k := 4) (m := 1) dzb0_cX10_most_0 di_11 (Nat.zero_lt_succ _) rfl
theorem dX10_most_5 : decode cX10_most 5 = .ok (.iconst 4, 1) := dz1 (k := 5) (m := 1) dzb0_cX10_most_0 di_33 (Nat.zero_lt_succ _) rfl
theorem dX10_most_6 : decode cX10_most 6 = .ok (.if_icmp .gt 11, 3) := dz1 (k := 6) (m := 3) dzb0_cX10_most_0 di_348 (Nat.zero_lt_succ _) rfl
theorem dX10_most_9 : decode cX10_most 9 = .ok (.aload_n 0, 1) := dz1 (k := 9) (m := 1) dzb0_cX10_most_0 di_0 (Nat.zero_lt_succ _) rfl
theorem dX10_most_10 : decode cX10_most 10 = .ok (.iload_n 2, 1) := dz1 (k := 10) (m := 1) dzb0_cX10_most_0 di_28 (Nat.zero_lt_succ _) rfl
theorem dX10_most_11 : decode cX10_most 11 = .ok (.invokevirtual 87, 3) := dz1 (k := 11) (m := 3) dzb0_cX10_most_0 di_228 (Nat.zero_lt_succ _) rfl
theorem dX10_most_14 : decode cX10_most 14 = .ok (.ifCond .ne 5, 3) := dz1 (k := 14) (m := 3) dzb0_cX10_most_0 di_239 (Nat.zero_lt_succ _) rfl
theorem dX10_most_17 : decode cX10_most 17 = .ok (.iconst (-1), 1) := dz1 (k := 17) (m := 1) dzb0_cX10_most_0 di_65 (Nat.zero_lt_succ _) rfl
theorem dX10_most_18 : decode cX10_most 18 = .ok (.ireturn, 1) := dz1 (k := 18) (m := 1) dzb0_cX10_most_0 di_13 (Nat.zero_lt_succ _) rfl
theorem dX10_most_19 : decode cX10_most 19 = .ok (.aload_n 0, 1) := dz1 (k := 19) (m := 1) dzb0_cX10_most_0 di_0 (Nat.zero_lt_succ _) rfl
theorem dX10_most_20 : decode cX10_most 20 = .ok (.getfield 36, 3) := dz1 (k := 20) (m := 3) dzb0_cX10_most_0 di_205 (Nat.zero_lt_succ _) rfl
theorem dX10_most_23 : decode cX10_most 23 = .ok (.getfield 135, 3) := dz1 (k := 23) (m := 3) dzb0_cX10_most_0 di_270 (Nat.zero_lt_succ _) rfl
theorem dX10_most_26 : decode cX10_most 26 = .ok (.ifCond .ne 6, 3) := dz1 (k := 26) (m := 3) dzb0_cX10_most_0 di_308 (Nat.zero_lt_succ _) rfl
theorem dX10_most_29 : decode cX10_most 29 = .ok (.bipush (-4), 2) := dz1 (k := 29) (m := 2) dzb0_cX10_most_0 di_264 (Nat.zero_lt_succ _) rfl
theorem dX10_most_31 : decode cX10_most 31 = .ok (.ireturn, 1) := dz1 (k := 31) (m := 1) dzb0_cX10_most_0 di_13 (Nat.zero_lt_succ _) rfl
set_option maxRecDepth 100000 in
theorem dzb0_cX10_most_32 : DzLies cX10_most (.mk ⟨[0x2a, 0x02, 0xb5, 0x00, 0xf3, 0x2a, 0x1c, 0x03, 0x2a, 0x1b, 0xb6, 0x00, 0xea, 0xb6, 0x00, 0xf6, 0x2a, 0xb4, 0x00, 0xf3, 0xac]⟩) 32 := dz_lies (m := 21) (Nat.zero_lt_succ _) rfl
theorem dX10_most_32 : decode cX10_most 32 = .ok (.aload_n 0, 1) := dz1 (k := 0) (m := 1) dzb0_cX10_most_32 di_0 (Nat.zero_lt_succ _) rfl
theorem dX10_most_33 : decode cX10_most 33 = .ok (.iconst (-1), 1) := dz1 (k := 1) (m := 1) dzb0_cX10_most_32 di_65 (Nat.zero_lt_succ _) rfl
theorem dX10_most_34 : decode cX10_most 34 = .ok (.putfield 243, 3) := dz1 (k := 2) (m := 3) dzb0_cX10_most_32 di_349 (Nat.zero_lt_succ _) rfl
theorem dX10_most_37 : decode cX10_most 37 = .ok (.aload_n 0, 1) := dz1 (k := 5) (m := 1) dzb0_cX10_most_32 di_0 (Nat.zero_lt_succ _) rfl
theorem dX10_most_38 : decode cX10_most 38 = .ok (.iload_n 2, 1) := dz1 (k := 6) (m := 1) dzb0_cX10_most_32 di_28 (Nat.zero_lt_succ _) rfl
theorem dX10_most_39 : decode cX10_most 39 = .ok (.iconst 0, 1) := dz1 (k := 7) (m := 1) dzb0_cX10_most_32 di_8 (Nat.zero_lt_succ _) rfl
theorem dX10_most_40 : decode cX10_most 40 = .ok (.aload_n 0, 1) := dz1 (k := 8) (m := 1) dzb0_cX10_most_32 di_0 (Nat.zero_lt_succ _) rfl
theorem dX10_most_41 : decode cX10_most 41 = .ok (.iload_n 1, 1) := dz1 (k := 9) (m := 1) dzb0_cX10_most_32 di_11 (Nat.zero_lt_succ _) rfl
theorem dX10_most_42 : decode cX10_most 42 = .ok (.invokevirtual 234, 3) := dz1 (k := 10) (m := 3) dzb0_cX10_most_32 di_342 (Nat.zero_lt_succ _) rfl
theorem dX10_most_45 : decode cX10_most 45 = .ok (.invokevirtual 246, 3) := dz1 (k := 13) (m := 3) dzb0_cX10_most_32 di_350 (Nat.zero_lt_succ _) rfl
theorem dX10_most_48 : decode cX10_most 48 = .ok (.aload_n 0, 1) := dz1 (k := 16) (m := 1) dzb0_cX10_most_32 di_0 (Nat.zero_lt_succ _) rfl
theorem dX10_most_49 : decode cX10_most 49 = .ok (.getfield 243, 3) := dz1 (k := 17) (m := 3) dzb0_cX10_most_32 di_351 (Nat.zero_lt_succ _) rfl
theorem dX10_most_52 : decode cX10_most 52 = .ok (.ireturn, 1) := dz1 (k := 20) (m := 1) dzb0_cX10_most_32 di_13 (Nat.zero_lt_succ _) rfl
set_option maxRecDepth 100000 in
theorem dzb0_cX10_which_0 : DzLies cX10_which (.mk ⟨[0x2a, 0x1b, 0xb6, 0x00, 0x8a, 0x99, 0x00, 0x0d, 0x1c, 0x9b, 0x00, 0x09, 0x1c, 0x10, 0x3f, 0xa4, 0x00, 0x05, 0x02, 0xac, 0x03, 0x3e, 0x04, 0x36, 0x04, 0x15, 0x04, 0x10, 0x0c, 0xa3, 0x00, 0x30]⟩) 0 := dz_lies (m := 32) (Nat.zero_lt_succ _) rfl
theorem dX10_which_0 : decode cX10_which 0 = .ok (.aload_n 0, 1) := dz1 (k := 0) (m := 1) dzb0_cX10_which_0 di_0 (Nat.zero_lt_succ _) rfl
theorem dX10_which_1 : decode cX10_which 1 = .ok (.iload_n 1, 1) := dz1 (k := 1) (m := 1) dzb0_cX10_which_0 di_11 (Nat.zero_lt_succ _) rfl
theorem dX10_which_2 : decode cX10_which 2 = .ok (.invokevirtual 138, 3) := dz1 (k := 2) (m := 3) dzb0_cX10_which_0 di_271 (Nat.zero_lt_succ _) rfl
theorem dX10_which_5 : decode cX10_which 5 = .ok (.ifCond .eq 13, 3) := dz1 (k := 5) (m := 3) dzb0_cX10_which_0 di_277 (Nat.zero_lt_succ _) rfl
theorem dX10_which_8 : decode cX10_which 8 = .ok (.iload_n 2, 1) := dz1 (k := 8) (m := 1) dzb0_cX10_which_0 di_28 (Nat.zero_lt_succ _) rfl
theorem dX10_which_9 : decode cX10_which 9 = .ok (.ifCond .lt 9, 3) := dz1 (k := 9) (m := 3) dzb0_cX10_which_0 di_319 (Nat.zero_lt_succ _) rfl
theorem dX10_which_12 : decode cX10_which 12 = .ok (.iload_n 2, 1) := dz1 (k := 12) (m := 1) dzb0_cX10_which_0 di_28 (Nat.zero_lt_succ _) rfl
theorem dX10_which_13 : decode cX10_which 13 = .ok (.bipush 63, 2) := dz1 (k := 13) (m := 2) dzb0_cX10_which_0 di_186 (Nat.zero_lt_succ _) rfl
theorem dX10_which_15 : decode cX10_which 15 = .ok (.if_icmp .le 5, 3) := dz1 (k := 15) (m := 3) dzb0_cX10_which_0 di_230 (Nat.zero_lt_succ _) rfl
theorem dX10_which_18 : decode cX10_which 18 = .ok (.iconst (-1), 1) := dz1 (k := 18) (m := 1) dzb0_cX10_which_0 di_65 (Nat.zero_lt_succ _) rfl
theorem dX10_which_19 : decode cX10_which 19 = .ok (.ireturn, 1) := dz1 (k := 19) (m := 1) dzb0_cX10_which_0 di_13 (Nat.zero_lt_succ _) rfl
theorem dX10_which_20 : decode cX10_which 20 = .ok (.iconst 0, 1) := dz1 (k := 20) (m := 1) dzb0_cX10_which_0 di_8 (Nat.zero_lt_succ _) rfl
theorem dX10_which_21 : decode cX10_which 21 = .ok (.istore_n 3, 1) := dz1 (k := 21) (m := 1) dzb0_cX10_which_0 di_50 (Nat.zero_lt_succ _) rfl
theorem dX10_which_22 : decode cX10_which 22 = .ok (.iconst 1, 1) := dz1 (k := 22) (m := 1) dzb0_cX10_which_0 di_10 (Nat.zero_lt_succ _) rfl
theorem dX10_which_23 : decode cX10_which 23 = .ok (.istore 4, 2) := dz1 (k := 23) (m := 2) dzb0_cX10_which_0 di_51 (Nat.zero_lt_succ _) rfl
theorem dX10_which_25 : decode cX10_which 25 = .ok (.iload 4, 2) := dz1 (k := 25) (m := 2) dzb0_cX10_which_0 di_52 (Nat.zero_lt_succ _) rfl
theorem dX10_which_27 : decode cX10_which 27 = .ok (.bipush 12, 2) := dz1 (k := 27) (m := 2) dzb0_cX10_which_0 di_126 (Nat.zero_lt_succ _) rfl
theorem dX10_which_29 : decode cX10_which 29 = .ok (.if_icmp .gt 48, 3) := dz1 (k := 29) (m := 3) dzb0_cX10_which_0 di_352 (Nat.zero_lt_succ _) rfl
set_option maxRecDepth 100000 in
theorem dzb0_cX10_which_32 : DzLies cX10_which (.mk ⟨[0x2a, 0xb4, 0x00, 0x2d, 0x15, 0x04, 0xb6, 0x00, 0xbf, 0x99, 0x00, 0x1e, 0x2a, 0x2a, 0xb4, 0x00, 0x24, 0xb4, 0x00, 0xfa, 0x1b, 0x2e, 0x1b, 0x15, 0x04, 0xb6, 0x00, 0xfd, 0x1c, 0xa0, 0x00, 0x0a]⟩) 32 := dz_lies (m := 32) (Nat.zero_lt_succ _) rfl
theorem dX10_which_32 : decode cX10_which 32 = .ok (.aload_n 0, 1) := dz1 (k := 0) (m := 1) dzb0_cX10_which_32 di_0 (Nat.zero_lt_succ _) rfl
theorem dX10_which_33 : decode cX10_which 33 = .ok (.getfield 45, 3) := dz1 (k := 1) (m := 3) dzb0_cX10_which_32 di_153 (Nat.zero_lt_succ _) rfl
theorem dX10_which_36 : decode cX10_which 36 = .ok (.iload 4, 2) := dz1 (k := 4) (m := 2) dzb0_cX10_which_32 di_52 (Nat.zero_lt_succ _) rfl
theorem dX10_which_38 : decode cX10_which 38 = .ok (.invokevirtual 191, 3) := dz1 (k := 6) (m := 3) dzb0_cX10_which_32 di_307 (Nat.zero_lt_succ _) rfl
theorem dX10_which_41 : decode cX10_which 41 = .ok (.ifCond .eq 30, 3) := dz1 (k := 9) (m := 3) dzb0_cX10_which_32 di_353 (Nat.zero_lt_succ _) rfl
theorem dX10_which_44 : decode cX10_which 44 = .ok (.aload_n 0, 1) := dz1 (k := 12) (m := 1) dzb0_cX10_which_32 di_0 (Nat.zero_lt_succ _) rfl
theorem dX10_which_45 : decode cX10_which 45 = .ok (.aload_n 0, 1) := dz1 (k := 13) (m := 1) dzb0_cX10_which_32 di_0 (Nat.zero_lt_succ _) rfl
theorem dX10_which_46 : decode cX10_which 46 = .ok (.getfield 36, 3) := dz1 (k := 14) (m := 3) dzb0_cX10_which_32 di_205 (Nat.zero_lt_succ _) rfl
theorem dX10_which_49 : decode cX10_which 49 = .ok (.getfield 250, 3) := dz1 (k := 17) (m := 3) dzb0_cX10_which_32 di_354 (Nat.zero_lt_succ _) rfl
theorem dX10_which_52 : decode cX10_which 52 = .ok (.iload_n 1, 1) := dz1 (k := 20) (m := 1) dzb0_cX10_which_32 di_11 (Nat.zero_lt_succ _) rfl
theorem dX10_which_53 : decode cX10_which 53 = .ok (.iaload, 1) := dz1 (k := 21) (m := 1) dzb0_cX10_which_32 di_30 (Nat.zero_lt_succ _) rfl
theorem dX10_which_54 : decode cX10_which 54 = .ok (.iload_n 1, 1) := dz1 (k := 22) (m := 1) dzb0_cX10_which_32 di_11 (Nat.zero_lt_succ _) rfl
theorem dX10_which_55 : decode cX10_which 55 = .ok (.iload 4, 2) := dz1 (k := 23) (m := 2) dzb0_cX10_which_32 di_52 (Nat.zero_lt_succ _) rfl
theorem dX10_which_57 : decode cX10_which 57 = .ok (.invokevirtual 253, 3) := dz1 (k := 25) (m := 3) dzb0_cX10_which_32 di_355 (Nat.zero_lt_succ _) rfl
theorem dX10_which_60 : decode cX10_which 60 = .ok (.iload_n 2, 1) := dz1 (k := 28) (m := 1) dzb0_cX10_which_32 di_28 (Nat.zero_lt_succ _) rfl
theorem dX10_which_61 : decode cX10_which 61 = .ok (.if_icmp .ne 10, 3) := dz1 (k := 29) (m := 3) dzb0_cX10_which_32 di_340 (Nat.zero_lt_succ _) rfl
set_option maxRecDepth 100000 in
theorem dzb0_cX10_which_64 : DzLies cX10_which (.mk ⟨[0x1d, 0x04, 0x15, 0x04, 0x78, 0x80, 0x3e, 0x84, 0x04, 0x01, 0xa7, 0xff, 0xcf, 0x1d, 0xac]⟩) 64 := dz_lies (m := 15) (Nat.zero_lt_succ _) rfl
theorem dX10_which_64 : decode cX10_which 64 = .ok (.iload_n 3, 1) := dz1 (k := 0) (m := 1) dzb0_cX10_which_64 di_3 (Nat.zero_lt_succ _) rfl
theorem dX10_which_65 : decode cX10_which 65 = .ok (.iconst 1, 1) := dz1 (k := 1) (m := 1) dzb0_cX10_which_64 di_10 (Nat.zero_lt_succ _) rfl
theorem dX10_which_66 : decode cX10_which 66 = .ok (.iload 4, 2) := dz1 (k := 2) (m := 2) dzb0_cX10_which_64 di_52 (Nat.zero_lt_succ _) rfl
theorem dX10_which_68 : decode cX10_which 68 = .ok (.ishl, 1) := dz1 (k := 4) (m := 1) dzb0_cX10_which_64 di_12 (Nat.zero_lt_succ _) rfl
theorem dX10_which_69 : decode cX10_which 69 = .ok (.ior, 1) := dz1 (k := 5) (m := 1) dzb0_cX10_which_64 di_62 (Nat.zero_lt_succ _) rfl
theorem dX10_which_70 : decode cX10_which 70 = .ok (.istore_n 3, 1) := dz1 (k := 6) (m := 1) dzb0_cX10_which_64 di_50 (Nat.zero_lt_succ _) rfl
theorem dX10_which_71 : decode cX10_which 71 = .ok (.iinc 4 1, 3) := dz1 (k := 7) (m := 3) dzb0_cX10_which_64 di_63 (Nat.zero_lt_succ _) rfl
theorem dX10_which_74 : decode cX10_which 74 = .ok (.goto (-49), 3) := dz1 (k := 10) (m := 3) dzb0_cX10_which_64 di_356 (Nat.zero_lt_succ _) rfl
theorem dX10_which_77 : decode cX10_which 77 = .ok (.iload_n 3, 1) := dz1 (k := 13) (m := 1) dzb0_cX10_which_64 di_3 (Nat.zero_lt_succ _) rfl
theorem dX10_which_78 : decode cX10_which 78 = .ok (.ireturn, 1) := dz1 (k := 14) (m := 1) dzb0_cX10_which_64 di_13 (Nat.zero_lt_succ _) rfl
set_option maxRecDepth 100000 in
theorem dzb0_cX10_kinds_0 : DzLies cX10_kinds (.mk ⟨[0x2a, 0x1b, 0x1c, 0xb6, 0x01, 0x00, 0x3e, 0x1d, 0x99, 0x00, 0x05, 0x1d, 0xac, 0x2a, 0x1b, 0x1c, 0xb6, 0x01, 0x03, 0xac]⟩) 0 := dz_lies (m := 20) (Nat.zero_lt_succ _) rfl
theorem dX10_kinds_0 : decode cX10_kinds 0 = .ok (.aload_n 0, 1) := dz1 (k := 0) (m := 1) dzb0_cX10_kinds_0 di_0 (Nat.zero_lt_succ _) rfl
theorem dX10_kinds_1 : decode cX10_kinds 1 = .ok (.iload_n 1, 1) := dz1 (k := 1) (m := 1) dzb0_cX10_kinds_0 di_11 (Nat.zero_lt_succ _) rfl
theorem dX10_kinds_2 : decode cX10_kinds 2 = .ok (.iload_n 2, 1) := dz1 (k := 2) (m := 1) dzb0_cX10_kinds_0 di_28 (Nat.zero_lt_succ _) rfl
theorem dX10_kinds_3 : decode cX10_kinds 3 = .ok (.invokevirtual 256, 3) := dz1 (k := 3) (m := 3) dzb0_cX10_kinds_0 di_357 (Nat.zero_lt_succ _) rfl
theorem dX10_kinds_6 : decode cX10_kinds 6 = .ok (.istore_n 3, 1) := dz1 (k := 6) (m := 1) dzb0_cX10_kinds_0 di_50 (Nat.zero_lt_succ _) rfl
theorem dX10_kinds_7 : decode cX10_kinds 7 = .ok (.iload_n 3, 1) := dz1 (k := 7) (m := 1) dzb0_cX10_kinds_0 di_3 (Nat.zero_lt_succ _) rfl
theorem dX10_kinds_8 : decode cX10_kinds 8 = .ok (.ifCond .eq 5, 3) := dz1 (k := 8) (m := 3) dzb0_cX10_kinds_0 di_236 (Nat.zero_lt_succ _) rfl
theorem dX10_kinds_11 : decode cX10_kinds 11 = .ok (.iload_n 3, 1) := dz1 (k := 11) (m := 1) dzb0_cX10_kinds_0 di_3 (Nat.zero_lt_succ _) rfl
theorem dX10_kinds_12 : decode cX10_kinds 12 = .ok (.ireturn, 1) := dz1 (k := 12) (m := 1) dzb0_cX10_kinds_0 di_13 (Nat.zero_lt_succ _) rfl
theorem dX10_kinds_13 : decode cX10_kinds 13 = .ok (.aload_n 0, 1) := dz1 (k := 13) (m := 1) dzb0_cX10_kinds_0 di_0 (Nat.zero_lt_succ _) rfl
theorem dX10_kinds_14 : decode cX10_kinds 14 = .ok (.iload_n 1, 1) := dz1 (k := 14) (m := 1) dzb0_cX10_kinds_0 di_11 (Nat.zero_lt_succ _) rfl
theorem dX10_kinds_15 : decode cX10_kinds 15 = .ok (.iload_n 2, 1) := dz1 (k := 15) (m := 1) dzb0_cX10_kinds_0 di_28 (Nat.zero_lt_succ _) rfl
theorem dX10_kinds_16 : decode cX10_kinds 16 = .ok (.invokevirtual 259, 3) := dz1 (k := 16) (m := 3) dzb0_cX10_kinds_0 di_358 (Nat.zero_lt_succ _) rfl
theorem dX10_kinds_19 : decode cX10_kinds 19 = .ok (.ireturn, 1) := dz1 (k := 19) (m := 1) dzb0_cX10_kinds_0 di_13 (Nat.zero_lt_succ _) rfl
set_option maxRecDepth 100000 in
theorem dzb0_cX10_next_0 : DzLies cX10_next (.mk ⟨[0x2a, 0x1b, 0x1c, 0xb6, 0x01, 0x00, 0x3e, 0x1d, 0x99, 0x00, 0x05, 0x1d, 0xac, 0x2a, 0x1b, 0x1c, 0xb6, 0x01, 0x03, 0x36, 0x04, 0x15, 0x04, 0x99, 0x00, 0x0d, 0x2a, 0xb4, 0x00, 0x2d, 0xb4, 0x01, 0x06]⟩) 0 := dz_lies (m := 33) (Nat.zero_lt_succ _) rfl
theorem dX10_next_0 : decode cX10_next 0 = .ok (.aload_n 0, 1) := dz1 (k := 0) (m := 1) dzb0_cX10_next_0 di_0 (Nat.zero_lt_succ _) rfl
theorem dX10_next_1 : decode cX10_next 1 = .ok (.iload_n 1, 1) := dz1 (k := 1) (m := 1) dzb0_cX10_next_0 di_11 (Nat.zero_lt_succ _) rfl
theorem dX10_next_2 : decode cX10_next 2 = .ok (.iload_n 2, 1) := dz1 (k := 2) (m := 1) dzb0_cX10_next_0 di_28 (Nat.zero_lt_succ _) rfl
theorem dX10_next_3 : decode cX10_next 3 = .ok (.invokevirtual 256, 3) := dz1 (k := 3) (m := 3) dzb0_cX10_next_0 di_357 (Nat.zero_lt_succ _) rfl
theorem dX10_next_6 : decode cX10_next 6 = .ok (.istore_n 3, 1) := dz1 (k := 6) (m := 1) dzb0_cX10_next_0 di_50 (Nat.zero_lt_succ _) rfl
theorem dX10_next_7 : decode cX10_next 7 = .ok (.iload_n 3, 1) := dz1 (k := 7) (m := 1) dzb0_cX10_next_0 di_3 (Nat.zero_lt_succ _) rfl
theorem dX10_next_8 : decode cX10_next 8 = .ok (.ifCond .eq 5, 3) := dz1 (k := 8) (m := 3) dzb0_cX10_next_0 di_236 (Nat.zero_lt_succ _) rfl
theorem dX10_next_11 : decode cX10_next 11 = .ok (.iload_n 3, 1) := dz1 (k := 11) (m := 1) dzb0_cX10_next_0 di_3 (Nat.zero_lt_succ _) rfl
theorem dX10_next_12 : decode cX10_next 12 = .ok (.ireturn, 1) := dz1 (k := 12) (m := 1) dzb0_cX10_next_0 di_13 (Nat.zero_lt_succ _) rfl
theorem dX10_next_13 : decode cX10_next 13 = .ok (.aload_n 0, 1) := dz1 (k := 13) (m := 1) dzb0_cX10_next_0 di_0 (Nat.zero_lt_succ _) rfl
theorem dX10_next_14 : decode cX10_next 14 = .ok (.iload_n 1, 1) := dz1 (k := 14) (m := 1) dzb0_cX10_next_0 di_11 (Nat.zero_lt_succ _) rfl
theorem dX10_next_15 : decode cX10_next 15 = .ok (.iload_n 2, 1) := dz1 (k := 15) (m := 1) dzb0_cX10_next_0 di_28 (Nat.zero_lt_succ _) rfl
theorem dX10_next_16 : decode cX10_next 16 = .ok (.invokevirtual 259, 3) := dz1 (k := 16) (m := 3) dzb0_cX10_next_0 di_358 (Nat.zero_lt_succ _) rfl
theorem dX10_next_19 : decode cX10_next 19 = .ok (.istore 4, 2) := dz1 (k := 19) (m := 2) dzb0_cX10_next_0 di_51 (Nat.zero_lt_succ _) rfl
theorem dX10_next_21 : decode cX10_next 21 = .ok (.iload 4, 2) := dz1 (k := 21) (m := 2) dzb0_cX10_next_0 di_52 (Nat.zero_lt_succ _) rfl
theorem dX10_next_23 : decode cX10_next 23 = .ok (.ifCond .eq 13, 3) := dz1 (k := 23) (m := 3) dzb0_cX10_next_0 di_277 (Nat.zero_lt_succ _) rfl
theorem dX10_next_26 : decode cX10_next 26 = .ok (.aload_n 0, 1) := dz1 (k := 26) (m := 1) dzb0_cX10_next_0 di_0 (Nat.zero_lt_succ _) rfl
theorem dX10_next_27 : decode cX10_next 27 = .ok (.getfield 45, 3) := dz1 (k := 27) (m := 3) dzb0_cX10_next_0 di_153 (Nat.zero_lt_succ _) rfl
theorem dX10_next_30 : decode cX10_next 30 = .ok (.getfield 262, 3) := dz1 (k := 30) (m := 3) dzb0_cX10_next_0 di_359 (Nat.zero_lt_succ _) rfl
set_option maxRecDepth 100000 in
theorem dzb0_cX10_next_32 : DzLies cX10_next (.mk ⟨[0x06, 0x9a, 0x00, 0x06, 0x10, 0xf7, 0xac, 0x10, 0x07, 0x36, 0x05, 0x03, 0x36, 0x06, 0x04, 0x36, 0x07, 0x15, 0x07, 0x10, 0x0c, 0xa3, 0x00, 0x2f, 0x2a, 0xb4, 0x00, 0x2d, 0x15, 0x07, 0xb6, 0x00, 0xbf]⟩) 32 := dz_lies (m := 33) (Nat.zero_lt_succ _) rfl
theorem dX10_next_33 : decode cX10_next 33 = .ok (.ifCond .ne 6, 3) := dz1 (k := 1) (m := 3) dzb0_cX10_next_32 di_308 (Nat.zero_lt_succ _) rfl
theorem dX10_next_36 : decode cX10_next 36 = .ok (.bipush (-9), 2) := dz1 (k := 4) (m := 2) dzb0_cX10_next_32 di_102 (Nat.zero_lt_succ _) rfl
theorem dX10_next_38 : decode cX10_next 38 = .ok (.ireturn, 1) := dz1 (k := 6) (m := 1) dzb0_cX10_next_32 di_13 (Nat.zero_lt_succ _) rfl
theorem dX10_next_39 : decode cX10_next 39 = .ok (.bipush 7, 2) := dz1 (k := 7) (m := 2) dzb0_cX10_next_32 di_83 (Nat.zero_lt_succ _) rfl
theorem dX10_next_41 : decode cX10_next 41 = .ok (.istore 5, 2) := dz1 (k := 9) (m := 2) dzb0_cX10_next_32 di_100 (Nat.zero_lt_succ _) rfl
theorem dX10_next_43 : decode cX10_next 43 = .ok (.iconst 0, 1) := dz1 (k := 11) (m := 1) dzb0_cX10_next_32 di_8 (Nat.zero_lt_succ _) rfl
theorem dX10_next_44 : decode cX10_next 44 = .ok (.istore 6, 2) := dz1 (k := 12) (m := 2) dzb0_cX10_next_32 di_114 (Nat.zero_lt_succ _) rfl
theorem dX10_next_46 : decode cX10_next 46 = .ok (.iconst 1, 1) := dz1 (k := 14) (m := 1) dzb0_cX10_next_32 di_10 (Nat.zero_lt_succ _) rfl
theorem dX10_next_47 : decode cX10_next 47 = .ok (.istore 7, 2) := dz1 (k := 15) (m := 2) dzb0_cX10_next_32 di_116 (Nat.zero_lt_succ _) rfl
theorem dX10_next_49 : decode cX10_next 49 = .ok (.iload 7, 2) := dz1 (k := 17) (m := 2) dzb0_cX10_next_32 di_117 (Nat.zero_lt_succ _) rfl
theorem dX10_next_51 : decode cX10_next 51 = .ok (.bipush 12, 2) := dz1 (k := 19) (m := 2) dzb0_cX10_next_32 di_126 (Nat.zero_lt_succ _) rfl
theorem dX10_next_53 : decode cX10_next 53 = .ok (.if_icmp .gt 47, 3) := dz1 (k := 21) (m := 3) dzb0_cX10_next_32 di_360 (Nat.zero_lt_succ _) rfl
theorem dX10_next_56 : decode cX10_next 56 = .ok (.aload_n 0, 1) := dz1 (k := 24) (m := 1) dzb0_cX10_next_32 di_0 (Nat.zero_lt_succ _) rfl
theorem dX10_next_57 : decode cX10_next 57 = .ok (.getfield 45, 3) := dz1 (k := 25) (m := 3) dzb0_cX10_next_32 di_153 (Nat.zero_lt_succ _) rfl
theorem dX10_next_60 : decode cX10_next 60 = .ok (.iload 7, 2) := dz1 (k := 28) (m := 2) dzb0_cX10_next_32 di_117 (Nat.zero_lt_succ _) rfl
theorem dX10_next_62 : decode cX10_next 62 = .ok (.invokevirtual 191, 3) := dz1 (k := 30) (m := 3) dzb0_cX10_next_32 di_307 (Nat.zero_lt_succ _) rfl
set_option maxRecDepth 100000 in
theorem dzb0_cX10_next_64 : DzLies cX10_next (.mk ⟨[0xbf, 0x99, 0x00, 0x1d, 0x2a, 0x15, 0x04, 0x1b, 0x15, 0x07, 0xb6, 0x01, 0x09, 0x36, 0x08, 0x15, 0x08, 0x15, 0x05, 0xa2, 0x00, 0x0b, 0x15, 0x08, 0x36, 0x05, 0x15, 0x07, 0x36, 0x06, 0x84, 0x07, 0x01]⟩) 64 := dz_lies (m := 33) (Nat.zero_lt_succ _) rfl
theorem dX10_next_65 : decode cX10_next 65 = .ok (.ifCond .eq 29, 3) := dz1 (k := 1) (m := 3) dzb0_cX10_next_64 di_361 (Nat.zero_lt_succ _) rfl
theorem dX10_next_68 : decode cX10_next 68 = .ok (.aload_n 0, 1) := dz1 (k := 4) (m := 1) dzb0_cX10_next_64 di_0 (Nat.zero_lt_succ _) rfl
theorem dX10_next_69 : decode cX10_next 69 = .ok (.iload 4, 2) := dz1 (k := 5) (m := 2) dzb0_cX10_next_64 di_52 (Nat.zero_lt_succ _) rfl
theorem dX10_next_71 : decode cX10_next 71 = .ok (.iload_n 1, 1) := dz1 (k := 7) (m := 1) dzb0_cX10_next_64 di_11 (Nat.zero_lt_succ _) rfl
theorem dX10_next_72 : decode cX10_next 72 = .ok (.iload 7, 2) := dz1 (k := 8) (m := 2) dzb0_cX10_next_64 di_117 (Nat.zero_lt_succ _) rfl
theorem dX10_next_74 : decode cX10_next 74 = .ok (.invokevirtual 265, 3) := dz1 (k := 10) (m := 3) dzb0_cX10_next_64 di_362 (Nat.zero_lt_succ _) rfl
theorem dX10_next_77 : decode cX10_next 77 = .ok (.istore 8, 2) := dz1 (k := 13) (m := 2) dzb0_cX10_next_64 di_363 (Nat.zero_lt_succ _) rfl
theorem dX10_next_79 : decode cX10_next 79 = .ok (.iload 8, 2) := dz1 (k := 15) (m := 2) dzb0_cX10_next_64 di_364 (Nat.zero_lt_succ _) rfl
theorem dX10_next_81 : decode cX10_next 81 = .ok (.iload 5, 2) := dz1 (k := 17) (m := 2) dzb0_cX10_next_64 di_101 (Nat.zero_lt_succ _) rfl
theorem dX10_next_83 : decode cX10_next 83 = .ok (.if_icmp .ge 11, 3) := dz1 (k := 19) (m := 3) dzb0_cX10_next_64 di_365 (Nat.zero_lt_succ _) rfl
theorem dX10_next_86 : decode cX10_next 86 = .ok (.iload 8, 2) := dz1 (k := 22) (m := 2) dzb0_cX10_next_64 di_364 (Nat.zero_lt_succ _) rfl
theorem dX10_next_88 : decode cX10_next 88 = .ok (.istore 5, 2) := dz1 (k := 24) (m := 2) dzb0_cX10_next_64 di_100 (Nat.zero_lt_succ _) rfl
theorem dX10_next_90 : decode cX10_next 90 = .ok (.iload 7, 2) := dz1 (k := 26) (m := 2) dzb0_cX10_next_64 di_117 (Nat.zero_lt_succ _) rfl
theorem dX10_next_92 : decode cX10_next 92 = .ok (.istore 6, 2) := dz1 (k := 28) (m := 2) dzb0_cX10_next_64 di_114 (Nat.zero_lt_succ _) rfl
theorem dX10_next_94 : decode cX10_next 94 = .ok (.iinc 7 1, 3) := dz1 (k := 30) (m := 3) dzb0_cX10_next_64 di_123 (Nat.zero_lt_succ _) rfl
set_option maxRecDepth 100000 in
theorem dzb0_cX10_next_96 : DzLies cX10_next (.mk ⟨[0x01, 0xa7, 0xff, 0xd0, 0x2a, 0x15, 0x05, 0xb5, 0x00, 0x63, 0x15, 0x06, 0xac]⟩) 96 := dz_lies (m := 13) (Nat.zero_lt_succ _) rfl
theorem dX10_next_97 : decode cX10_next 97 = .ok (.goto (-48), 3) := dz1 (k := 1) (m := 3) dzb0_cX10_next_96 di_366 (Nat.zero_lt_succ _) rfl
theorem dX10_next_100 : decode cX10_next 100 = .ok (.aload_n 0, 1) := dz1 (k := 4) (m := 1) dzb0_cX10_next_96 di_0 (Nat.zero_lt_succ _) rfl
theorem dX10_next_101 : decode cX10_next 101 = .ok (.iload 5, 2) := dz1 (k := 5) (m := 2) dzb0_cX10_next_96 di_101 (Nat.zero_lt_succ _) rfl
theorem dX10_next_103 : decode cX10_next 103 = .ok (.putfield 99, 3) := dz1 (k := 7) (m := 3) dzb0_cX10_next_96 di_235 (Nat.zero_lt_succ _) rfl
theorem dX10_next_106 : decode cX10_next 106 = .ok (.iload 6, 2) := dz1 (k := 10) (m := 2) dzb0_cX10_next_96 di_115 (Nat.zero_lt_succ _) rfl
theorem dX10_next_108 : decode cX10_next 108 = .ok (.ireturn, 1) := dz1 (k := 12) (m := 1) dzb0_cX10_next_96 di_13 (Nat.zero_lt_succ _) rfl
set_option maxRecDepth 100000 in
theorem dzb0_cX10_duel_0 : DzLies cX10_duel (.mk ⟨[0x2a, 0x1b, 0xb6, 0x00, 0x8a, 0x99, 0x00, 0x19, 0x2a, 0x1c, 0xb6, 0x00, 0x8a, 0x99, 0x00, 0x11, 0x1b, 0x1c, 0x9f, 0x00, 0x0c, 0x1d, 0x9b, 0x00, 0x08, 0x1d, 0x05, 0xa4, 0x00, 0x05, 0x02, 0xac]⟩) 0 := dz_lies (m := 32) (Nat.zero_lt_succ _) rfl
theorem dX10_duel_0 : decode cX10_duel 0 = .ok (.aload_n 0, 1) := dz1 (k := 0) (m := 1) dzb0_cX10_duel_0 di_0 (Nat.zero_lt_succ _) rfl
theorem dX10_duel_1 : decode cX10_duel 1 = .ok (.iload_n 1, 1) := dz1 (k := 1) (m := 1) dzb0_cX10_duel_0 di_11 (Nat.zero_lt_succ _) rfl
theorem dX10_duel_2 : decode cX10_duel 2 = .ok (.invokevirtual 138, 3) := dz1 (k := 2) (m := 3) dzb0_cX10_duel_0 di_271 (Nat.zero_lt_succ _) rfl
theorem dX10_duel_5 : decode cX10_duel 5 = .ok (.ifCond .eq 25, 3) := dz1 (k := 5) (m := 3) dzb0_cX10_duel_0 di_367 (Nat.zero_lt_succ _) rfl
theorem dX10_duel_8 : decode cX10_duel 8 = .ok (.aload_n 0, 1) := dz1 (k := 8) (m := 1) dzb0_cX10_duel_0 di_0 (Nat.zero_lt_succ _) rfl
theorem dX10_duel_9 : decode cX10_duel 9 = .ok (.iload_n 2, 1) := dz1 (k := 9) (m := 1) dzb0_cX10_duel_0 di_28 (Nat.zero_lt_succ _) rfl
theorem dX10_duel_10 : decode cX10_duel 10 = .ok (.invokevirtual 138, 3) := dz1 (k := 10) (m := 3) dzb0_cX10_duel_0 di_271 (Nat.zero_lt_succ _) rfl
theorem dX10_duel_13 : decode cX10_duel 13 = .ok (.ifCond .eq 17, 3) := dz1 (k := 13) (m := 3) dzb0_cX10_duel_0 di_368 (Nat.zero_lt_succ _) rfl
theorem dX10_duel_16 : decode cX10_duel 16 = .ok (.iload_n 1, 1) := dz1 (k := 16) (m := 1) dzb0_cX10_duel_0 di_11 (Nat.zero_lt_succ _) rfl
theorem dX10_duel_17 : decode cX10_duel 17 = .ok (.iload_n 2, 1) := dz1 (k := 17) (m := 1) dzb0_cX10_duel_0 di_28 (Nat.zero_lt_succ _) rfl
theorem dX10_duel_18 : decode cX10_duel 18 = .ok (.if_icmp .eq 12, 3) := dz1 (k := 18) (m := 3) dzb0_cX10_duel_0 di_369 (Nat.zero_lt_succ _) rfl
theorem dX10_duel_21 : decode cX10_duel 21 = .ok (.iload_n 3, 1) := dz1 (k := 21) (m := 1) dzb0_cX10_duel_0 di_3 (Nat.zero_lt_succ _) rfl
theorem dX10_duel_22 : decode cX10_duel 22 = .ok (.ifCond .lt 8, 3) := dz1 (k := 22) (m := 3) dzb0_cX10_duel_0 di_273 (Nat.zero_lt_succ _) rfl
theorem dX10_duel_25 : decode cX10_duel 25 = .ok (.iload_n 3, 1) := dz1 (k := 25) (m := 1) dzb0_cX10_duel_0 di_3 (Nat.zero_lt_succ _) rfl
theorem dX10_duel_26 : decode cX10_duel 26 = .ok (.iconst 2, 1) := dz1 (k := 26) (m := 1) dzb0_cX10_duel_0 di_6 (Nat.zero_lt_succ _) rfl
theorem dX10_duel_27 : decode cX10_duel 27 = .ok (.if_icmp .le 5, 3) := dz1 (k := 27) (m := 3) dzb0_cX10_duel_0 di_230 (Nat.zero_lt_succ _) rfl
theorem dX10_duel_30 : decode cX10_duel 30 = .ok (.iconst (-1), 1) := dz1 (k := 30) (m := 1) dzb0_cX10_duel_0 di_65 (Nat.zero_lt_succ _) rfl
theorem dX10_duel_31 : decode cX10_duel 31 = .ok (.ireturn, 1) := dz1 (k := 31) (m := 1) dzb0_cX10_duel_0 di_13 (Nat.zero_lt_succ _) rfl
set_option maxRecDepth 100000 in
theorem dzb0_cX10_duel_32 : DzLies cX10_duel (.mk ⟨[0x2a, 0x2a, 0x1b, 0x1c, 0x03, 0x2a, 0x05, 0x1d, 0x68, 0xb6, 0x00, 0xea, 0xb6, 0x01, 0x0c, 0xb5, 0x00, 0x63, 0x04, 0xac]⟩) 32 := dz_lies (m := 20) (Nat.zero_lt_succ _) rfl
theorem dX10_duel_32 : decode cX10_duel 32 = .ok (.aload_n 0, 1) := dz1 (k := 0) (m := 1) dzb0_cX10_duel_32 di_0 (Nat.zero_lt_succ _) rfl
theorem dX10_duel_33 : decode cX10_duel 33 = .ok (.aload_n 0, 1) := dz1 (k := 1) (m := 1) dzb0_cX10_duel_32 di_0 (Nat.zero_lt_succ _) rfl
theorem dX10_duel_34 : decode cX10_duel 34 = .ok (.iload_n 1, 1) := dz1 (k := 2) (m := 1) dzb0_cX10_duel_32 di_11 (Nat.zero_lt_succ _) rfl
theorem dX10_duel_35 : decode cX10_duel 35 = .ok (.iload_n 2, 1) := dz1 (k := 3) (m := 1) dzb0_cX10_duel_32 di_28 (Nat.zero_lt_succ _) rfl
theorem dX10_duel_36 : decode cX10_duel 36 = .ok (.iconst 0, 1) := dz1 (k := 4) (m := 1) dzb0_cX10_duel_32 di_8 (Nat.zero_lt_succ _) rfl
theorem dX10_duel_37 : decode cX10_duel 37 = .ok (.aload_n 0, 1) := dz1 (k := 5) (m := 1) dzb0_cX10_duel_32 di_0 (Nat.zero_lt_succ _) rfl
theorem dX10_duel_38 : decode cX10_duel 38 = .ok (.iconst 2, 1) := dz1 (k := 6) (m := 1) dzb0_cX10_duel_32 di_6 (Nat.zero_lt_succ _) rfl
theorem dX10_duel_39 : decode cX10_duel 39 = .ok (.iload_n 3, 1) := dz1 (k := 7) (m := 1) dzb0_cX10_duel_32 di_3 (Nat.zero_lt_succ _) rfl
theorem dX10_duel_40 : decode cX10_duel 40 = .ok (.imul, 1) := dz1 (k := 8) (m := 1) dzb0_cX10_duel_32 di_113 (Nat.zero_lt_succ _) rfl
theorem dX10_duel_41 : decode cX10_duel 41 = .ok (.invokevirtual 234, 3) := dz1 (k := 9) (m := 3) dzb0_cX10_duel_32 di_342 (Nat.zero_lt_succ _) rfl
theorem dX10_duel_44 : decode cX10_duel 44 = .ok (.invokevirtual 268, 3) := dz1 (k := 12) (m := 3) dzb0_cX10_duel_32 di_370 (Nat.zero_lt_succ _) rfl
theorem dX10_duel_47 : decode cX10_duel 47 = .ok (.putfield 99, 3) := dz1 (k := 15) (m := 3) dzb0_cX10_duel_32 di_235 (Nat.zero_lt_succ _) rfl
theorem dX10_duel_50 : decode cX10_duel 50 = .ok (.iconst 1, 1) := dz1 (k := 18) (m := 1) dzb0_cX10_duel_32 di_10 (Nat.zero_lt_succ _) rfl
theorem dX10_duel_51 : decode cX10_duel 51 = .ok (.ireturn, 1) := dz1 (k := 19) (m := 1) dzb0_cX10_duel_32 di_13 (Nat.zero_lt_succ _) rfl
set_option maxRecDepth 100000 in
theorem dzb0_cX10_odds_0 : DzLies cX10_odds (.mk ⟨[0x2a, 0x1b, 0x1c, 0x04, 0xb6, 0x01, 0x10, 0xac]⟩) 0 := dz_lies (m := 8) (Nat.zero_lt_succ _) rfl
theorem dX10_odds_0 : decode cX10_odds 0 = .ok (.aload_n 0, 1) := dz1 (k := 0) (m := 1) dzb0_cX10_odds_0 di_0 (Nat.zero_lt_succ _) rfl
theorem dX10_odds_1 : decode cX10_odds 1 = .ok (.iload_n 1, 1) := dz1 (k := 1) (m := 1) dzb0_cX10_odds_0 di_11 (Nat.zero_lt_succ _) rfl
theorem dX10_odds_2 : decode cX10_odds 2 = .ok (.iload_n 2, 1) := dz1 (k := 2) (m := 1) dzb0_cX10_odds_0 di_28 (Nat.zero_lt_succ _) rfl
theorem dX10_odds_3 : decode cX10_odds 3 = .ok (.iconst 1, 1) := dz1 (k := 3) (m := 1) dzb0_cX10_odds_0 di_10 (Nat.zero_lt_succ _) rfl
theorem dX10_odds_4 : decode cX10_odds 4 = .ok (.invokevirtual 272, 3) := dz1 (k := 4) (m := 3) dzb0_cX10_odds_0 di_371 (Nat.zero_lt_succ _) rfl
theorem dX10_odds_7 : decode cX10_odds 7 = .ok (.ireturn, 1) := dz1 (k := 7) (m := 1) dzb0_cX10_odds_0 di_13 (Nat.zero_lt_succ _) rfl
set_option maxRecDepth 100000 in
theorem dzb0_cX10_mid_0 : DzLies cX10_mid (.mk ⟨[0x2a, 0x1b, 0x1c, 0x03, 0xb6, 0x01, 0x10, 0xac]⟩) 0 := dz_lies (m := 8) (Nat.zero_lt_succ _) rfl
theorem dX10_mid_0 : decode cX10_mid 0 = .ok (.aload_n 0, 1) := dz1 (k := 0) (m := 1) dzb0_cX10_mid_0 di_0 (Nat.zero_lt_succ _) rfl
theorem dX10_mid_1 : decode cX10_mid 1 = .ok (.iload_n 1, 1) := dz1 (k := 1) (m := 1) dzb0_cX10_mid_0 di_11 (Nat.zero_lt_succ _) rfl
theorem dX10_mid_2 : decode cX10_mid 2 = .ok (.iload_n 2, 1) := dz1 (k := 2) (m := 1) dzb0_cX10_mid_0 di_28 (Nat.zero_lt_succ _) rfl
theorem dX10_mid_3 : decode cX10_mid 3 = .ok (.iconst 0, 1) := dz1 (k := 3) (m := 1) dzb0_cX10_mid_0 di_8 (Nat.zero_lt_succ _) rfl
theorem dX10_mid_4 : decode cX10_mid 4 = .ok (.invokevirtual 272, 3) := dz1 (k := 4) (m := 3) dzb0_cX10_mid_0 di_371 (Nat.zero_lt_succ _) rfl
theorem dX10_mid_7 : decode cX10_mid 7 = .ok (.ireturn, 1) := dz1 (k := 7) (m := 1) dzb0_cX10_mid_0 di_13 (Nat.zero_lt_succ _) rfl
set_option maxRecDepth 100000 in
theorem dzb0_cX10_lots_0 : DzLies cX10_lots (.mk ⟨[0x1b, 0x04, 0xa1, 0x00, 0x17, 0x1b, 0x10, 0x14, 0xa3, 0x00, 0x11, 0x1c, 0x04, 0xa1, 0x00, 0x0c, 0x1c, 0x85, 0x14, 0x01, 0x14, 0x94, 0x9b, 0x00, 0x05, 0x02, 0xac, 0x2a, 0xb4, 0x00, 0x24, 0xb4, 0x00, 0x87]⟩) 0 := dz_lies (m := 34) (Nat.zero_lt_succ _) rfl
theorem dX10_lots_0 : decode cX10_lots 0 = .ok (.iload_n 1, 1) := dz1 (k := 0) (m := 1) dzb0_cX10_lots_0 di_11 (Nat.zero_lt_succ _) rfl
theorem dX10_lots_1 : decode cX10_lots 1 = .ok (.iconst 1, 1) := dz1 (k := 1) (m := 1) dzb0_cX10_lots_0 di_10 (Nat.zero_lt_succ _) rfl
theorem dX10_lots_2 : decode cX10_lots 2 = .ok (.if_icmp .lt 23, 3) := dz1 (k := 2) (m := 3) dzb0_cX10_lots_0 di_372 (Nat.zero_lt_succ _) rfl
theorem dX10_lots_5 : decode cX10_lots 5 = .ok (.iload_n 1, 1) := dz1 (k := 5) (m := 1) dzb0_cX10_lots_0 di_11 (Nat.zero_lt_succ _) rfl
theorem dX10_lots_6 : decode cX10_lots 6 = .ok (.bipush 20, 2) := dz1 (k := 6) (m := 2) dzb0_cX10_lots_0 di_373 (Nat.zero_lt_succ _) rfl
theorem dX10_lots_8 : decode cX10_lots 8 = .ok (.if_icmp .gt 17, 3) := dz1 (k := 8) (m := 3) dzb0_cX10_lots_0 di_374 (Nat.zero_lt_succ _) rfl
theorem dX10_lots_11 : decode cX10_lots 11 = .ok (.iload_n 2, 1) := dz1 (k := 11) (m := 1) dzb0_cX10_lots_0 di_28 (Nat.zero_lt_succ _) rfl
theorem dX10_lots_12 : decode cX10_lots 12 = .ok (.iconst 1, 1) := dz1 (k := 12) (m := 1) dzb0_cX10_lots_0 di_10 (Nat.zero_lt_succ _) rfl
theorem dX10_lots_13 : decode cX10_lots 13 = .ok (.if_icmp .lt 12, 3) := dz1 (k := 13) (m := 3) dzb0_cX10_lots_0 di_120 (Nat.zero_lt_succ _) rfl
theorem dX10_lots_16 : decode cX10_lots 16 = .ok (.iload_n 2, 1) := dz1 (k := 16) (m := 1) dzb0_cX10_lots_0 di_28 (Nat.zero_lt_succ _) rfl
theorem dX10_lots_17 : decode cX10_lots 17 = .ok (.i2l, 1) := dz1 (k := 17) (m := 1) dzb0_cX10_lots_0 di_250 (Nat.zero_lt_succ _) rfl
theorem dX10_lots_18 : decode cX10_lots 18 = .ok (.ldc2_w 276, 3) := dz1 (k := 18) (m := 3) dzb0_cX10_lots_0 di_375 (Nat.zero_lt_succ _) rfl
theorem dX10_lots_21 : decode cX10_lots 21 = .ok (.lcmp, 1) := dz1 (k := 21) (m := 1) dzb0_cX10_lots_0 di_376 (Nat.zero_lt_succ _) rfl
theorem dX10_lots_22 : decode cX10_lots 22 = .ok (.ifCond .lt 5, 3) := dz1 (k := 22) (m := 3) dzb0_cX10_lots_0 di_377 (Nat.zero_lt_succ _) rfl
theorem dX10_lots_25 : decode cX10_lots 25 = .ok (.iconst (-1), 1) := dz1 (k := 25) (m := 1) dzb0_cX10_lots_0 di_65 (Nat.zero_lt_succ _) rfl
theorem dX10_lots_26 : decode cX10_lots 26 = .ok (.ireturn, 1) := dz1 (k := 26) (m := 1) dzb0_cX10_lots_0 di_13 (Nat.zero_lt_succ _) rfl
theorem dX10_lots_27 : decode cX10_lots 27 = .ok (.aload_n 0, 1) := dz1 (k := 27) (m := 1) dzb0_cX10_lots_0 di_0 (Nat.zero_lt_succ _) rfl
theorem dX10_lots_28 : decode cX10_lots 28 = .ok (.getfield 36, 3) := dz1 (k := 28) (m := 3) dzb0_cX10_lots_0 di_205 (Nat.zero_lt_succ _) rfl
theorem dX10_lots_31 : decode cX10_lots 31 = .ok (.getfield 135, 3) := dz1 (k := 31) (m := 3) dzb0_cX10_lots_0 di_270 (Nat.zero_lt_succ _) rfl
set_option maxRecDepth 100000 in
theorem dzb0_cX10_lots_32 : DzLies cX10_lots (.mk ⟨[0x00, 0x87, 0x9a, 0x00, 0x06, 0x10, 0xfc, 0xac, 0x2a, 0xb4, 0x00, 0x34, 0xb4, 0x00, 0x53, 0x1b, 0x60, 0x10, 0x28, 0xa4, 0x00, 0x06, 0x10, 0xfe, 0xac, 0x1c, 0x3e, 0x03, 0x36, 0x04, 0x15, 0x04]⟩) 32 := dz_lies (m := 32) (Nat.zero_lt_succ _) rfl
theorem dX10_lots_34 : decode cX10_lots 34 = .ok (.ifCond .ne 6, 3) := dz1 (k := 2) (m := 3) dzb0_cX10_lots_32 di_308 (Nat.zero_lt_succ _) rfl
theorem dX10_lots_37 : decode cX10_lots 37 = .ok (.bipush (-4), 2) := dz1 (k := 5) (m := 2) dzb0_cX10_lots_32 di_264 (Nat.zero_lt_succ _) rfl
theorem dX10_lots_39 : decode cX10_lots 39 = .ok (.ireturn, 1) := dz1 (k := 7) (m := 1) dzb0_cX10_lots_32 di_13 (Nat.zero_lt_succ _) rfl
theorem dX10_lots_40 : decode cX10_lots 40 = .ok (.aload_n 0, 1) := dz1 (k := 8) (m := 1) dzb0_cX10_lots_32 di_0 (Nat.zero_lt_succ _) rfl
theorem dX10_lots_41 : decode cX10_lots 41 = .ok (.getfield 52, 3) := dz1 (k := 9) (m := 3) dzb0_cX10_lots_32 di_266 (Nat.zero_lt_succ _) rfl
theorem dX10_lots_44 : decode cX10_lots 44 = .ok (.getfield 83, 3) := dz1 (k := 12) (m := 3) dzb0_cX10_lots_32 di_309 (Nat.zero_lt_succ _) rfl
theorem dX10_lots_47 : decode cX10_lots 47 = .ok (.iload_n 1, 1) := dz1 (k := 15) (m := 1) dzb0_cX10_lots_32 di_11 (Nat.zero_lt_succ _) rfl
theorem dX10_lots_48 : decode cX10_lots 48 = .ok (.iadd, 1) := dz1 (k := 16) (m := 1) dzb0_cX10_lots_32 di_24 (Nat.zero_lt_succ _) rfl
theorem dX10_lots_49 : decode cX10_lots 49 = .ok (.bipush 40, 2) := dz1 (k := 17) (m := 2) dzb0_cX10_lots_32 di_16 (Nat.zero_lt_succ _) rfl
theorem dX10_lots_51 : decode cX10_lots 51 = .ok (.if_icmp .le 6, 3) := dz1 (k := 19) (m := 3) dzb0_cX10_lots_32 di_122 (Nat.zero_lt_succ _) rfl
theorem dX10_lots_54 : decode cX10_lots 54 = .ok (.bipush (-2), 2) := dz1 (k := 22) (m := 2) dzb0_cX10_lots_32 di_311 (Nat.zero_lt_succ _) rfl
theorem dX10_lots_56 : decode cX10_lots 56 = .ok (.ireturn, 1) := dz1 (k := 24) (m := 1) dzb0_cX10_lots_32 di_13 (Nat.zero_lt_succ _) rfl
theorem dX10_lots_57 : decode cX10_lots 57 = .ok (.iload_n 2, 1) := dz1 (k := 25) (m := 1) dzb0_cX10_lots_32 di_28 (Nat.zero_lt_succ _) rfl
theorem dX10_lots_58 : decode cX10_lots 58 = .ok (.istore_n 3, 1) := dz1 (k := 26) (m := 1) dzb0_cX10_lots_32 di_50 (Nat.zero_lt_succ _) rfl
theorem dX10_lots_59 : decode cX10_lots 59 = .ok (.iconst 0, 1) := dz1 (k := 27) (m := 1) dzb0_cX10_lots_32 di_8 (Nat.zero_lt_succ _) rfl
theorem dX10_lots_60 : decode cX10_lots 60 = .ok (.istore 4, 2) := dz1 (k := 28) (m := 2) dzb0_cX10_lots_32 di_51 (Nat.zero_lt_succ _) rfl
theorem dX10_lots_62 : decode cX10_lots 62 = .ok (.iload 4, 2) := dz1 (k := 30) (m := 2) dzb0_cX10_lots_32 di_52 (Nat.zero_lt_succ _) rfl
set_option maxRecDepth 100000 in
theorem dzb0_cX10_lots_64 : DzLies cX10_lots (.mk ⟨[0x1b, 0xa2, 0x00, 0x1a, 0x14, 0x01, 0x16, 0x1d, 0x85, 0x69, 0x14, 0x01, 0x14, 0x71, 0x88, 0x3e, 0x2a, 0x1d, 0xb6, 0x01, 0x18, 0x84, 0x04, 0x01, 0xa7, 0xff, 0xe6, 0x2a, 0xb4, 0x00, 0x2d, 0xb4, 0x00, 0xdf]⟩) 64 := dz_lies (m := 34) (Nat.zero_lt_succ _) rfl
theorem dX10_lots_64 : decode cX10_lots 64 = .ok (.iload_n 1, 1) := dz1 (k := 0) (m := 1) dzb0_cX10_lots_64 di_11 (Nat.zero_lt_succ _) rfl
theorem dX10_lots_65 : decode cX10_lots 65 = .ok (.if_icmp .ge 26, 3) := dz1 (k := 1) (m := 3) dzb0_cX10_lots_64 di_378 (Nat.zero_lt_succ _) rfl
theorem dX10_lots_68 : decode cX10_lots 68 = .ok (.ldc2_w 278, 3) := dz1 (k := 4) (m := 3) dzb0_cX10_lots_64 di_379 (Nat.zero_lt_succ _) rfl
theorem dX10_lots_71 : decode cX10_lots 71 = .ok (.iload_n 3, 1) := dz1 (k := 7) (m := 1) dzb0_cX10_lots_64 di_3 (Nat.zero_lt_succ _) rfl
theorem dX10_lots_72 : decode cX10_lots 72 = .ok (.i2l, 1) := dz1 (k := 8) (m := 1) dzb0_cX10_lots_64 di_250 (Nat.zero_lt_succ _) rfl
theorem dX10_lots_73 : decode cX10_lots 73 = .ok (.lmul, 1) := dz1 (k := 9) (m := 1) dzb0_cX10_lots_64 di_380 (Nat.zero_lt_succ _) rfl
theorem dX10_lots_74 : decode cX10_lots 74 = .ok (.ldc2_w 276, 3) := dz1 (k := 10) (m := 3) dzb0_cX10_lots_64 di_375 (Nat.zero_lt_succ _) rfl
theorem dX10_lots_77 : decode cX10_lots 77 = .ok (.lrem, 1) := dz1 (k := 13) (m := 1) dzb0_cX10_lots_64 di_381 (Nat.zero_lt_succ _) rfl
theorem dX10_lots_78 : decode cX10_lots 78 = .ok (.l2i, 1) := dz1 (k := 14) (m := 1) dzb0_cX10_lots_64 di_255 (Nat.zero_lt_succ _) rfl
theorem dX10_lots_79 : decode cX10_lots 79 = .ok (.istore_n 3, 1) := dz1 (k := 15) (m := 1) dzb0_cX10_lots_64 di_50 (Nat.zero_lt_succ _) rfl
theorem dX10_lots_80 : decode cX10_lots 80 = .ok (.aload_n 0, 1) := dz1 (k := 16) (m := 1) dzb0_cX10_lots_64 di_0 (Nat.zero_lt_succ _) rfl
theorem dX10_lots_81 : decode cX10_lots 81 = .ok (.iload_n 3, 1) := dz1 (k := 17) (m := 1) dzb0_cX10_lots_64 di_3 (Nat.zero_lt_succ _) rfl
theorem dX10_lots_82 : decode cX10_lots 82 = .ok (.invokevirtual 280, 3) := dz1 (k := 18) (m := 3) dzb0_cX10_lots_64 di_382 (Nat.zero_lt_succ _) rfl
theorem dX10_lots_85 : decode cX10_lots 85 = .ok (.iinc 4 1, 3) := dz1 (k := 21) (m := 3) dzb0_cX10_lots_64 di_63 (Nat.zero_lt_succ _) rfl
theorem dX10_lots_88 : decode cX10_lots 88 = .ok (.goto (-26), 3) := dz1 (k := 24) (m := 3) dzb0_cX10_lots_64 di_70 (Nat.zero_lt_succ _) rfl
theorem dX10_lots_91 : decode cX10_lots 91 = .ok (.aload_n 0, 1) := dz1 (k := 27) (m := 1) dzb0_cX10_lots_64 di_0 (Nat.zero_lt_succ _) rfl
theorem dX10_lots_92 : decode cX10_lots 92 = .ok (.getfield 45, 3) := dz1 (k := 28) (m := 3) dzb0_cX10_lots_64 di_153 (Nat.zero_lt_succ _) rfl
theorem dX10_lots_95 : decode cX10_lots 95 = .ok (.getfield 223, 3) := dz1 (k := 31) (m := 3) dzb0_cX10_lots_64 di_333 (Nat.zero_lt_succ _) rfl
set_option maxRecDepth 100000 in
theorem dzb0_cX10_lots_96 : DzLies cX10_lots (.mk ⟨[0x00, 0xdf, 0xac]⟩) 96 := dz_lies (m := 3) (Nat.zero_lt_succ _) rfl
theorem dX10_lots_98 : decode cX10_lots 98 = .ok (.ireturn, 1) := dz1 (k := 2) (m := 1) dzb0_cX10_lots_96 di_13 (Nat.zero_lt_succ _) rfl
set_option maxRecDepth 100000 in
theorem dzb0_cX10_asked_0 : DzLies cX10_asked (.mk ⟨[0x2a, 0xb4, 0x00, 0x63, 0xac]⟩) 0 := dz_lies (m := 5) (Nat.zero_lt_succ _) rfl
theorem dX10_asked_0 : decode cX10_asked 0 = .ok (.aload_n 0, 1) := dz1 (k := 0) (m := 1) dzb0_cX10_asked_0 di_0 (Nat.zero_lt_succ _) rfl
theorem dX10_asked_1 : decode cX10_asked 1 = .ok (.getfield 99, 3) := dz1 (k := 1) (m := 3) dzb0_cX10_asked_0 di_383 (Nat.zero_lt_succ _) rfl
theorem dX10_asked_4 : decode cX10_asked 4 = .ok (.ireturn, 1) := dz1 (k := 4) (m := 1) dzb0_cX10_asked_0 di_13 (Nat.zero_lt_succ _) rfl
set_option maxRecDepth 100000 in
theorem dzb0_cX10_upper_0 : DzLies cX10_upper (.mk ⟨[0x2a, 0xb4, 0x01, 0x1c, 0xad]⟩) 0 := dz_lies (m := 5) (Nat.zero_lt_succ _) rfl
theorem dX10_upper_0 : decode cX10_upper 0 = .ok (.aload_n 0, 1) := dz1 (k := 0) (m := 1) dzb0_cX10_upper_0 di_0 (Nat.zero_lt_succ _) rfl
theorem dX10_upper_1 : decode cX10_upper 1 = .ok (.getfield 284, 3) := dz1 (k := 1) (m := 3) dzb0_cX10_upper_0 di_384 (Nat.zero_lt_succ _) rfl
theorem dX10_upper_4 : decode cX10_upper 4 = .ok (.lreturn, 1) := dz1 (k := 4) (m := 1) dzb0_cX10_upper_0 di_385 (Nat.zero_lt_succ _) rfl
set_option maxRecDepth 100000 in
theorem dzb0_cX10_lower_0 : DzLies cX10_lower (.mk ⟨[0x2a, 0xb4, 0x00, 0x46, 0xad]⟩) 0 := dz_lies (m := 5) (Nat.zero_lt_succ _) rfl
theorem dX10_lower_0 : decode cX10_lower 0 = .ok (.aload_n 0, 1) := dz1 (k := 0) (m := 1) dzb0_cX10_lower_0 di_0 (Nat.zero_lt_succ _) rfl
theorem dX10_lower_1 : decode cX10_lower 1 = .ok (.getfield 70, 3) := dz1 (k := 1) (m := 3) dzb0_cX10_lower_0 di_386 (Nat.zero_lt_succ _) rfl
theorem dX10_lower_4 : decode cX10_lower 4 = .ok (.lreturn, 1) := dz1 (k := 4) (m := 1) dzb0_cX10_lower_0 di_385 (Nat.zero_lt_succ _) rfl
set_option maxRecDepth 100000 in
theorem dzb0_cX10_count_0 : DzLies cX10_count (.mk ⟨[0x1b]⟩) 0 := dz_lies (m := 1) (Nat.zero_lt_succ _) rfl
theorem dX10_count_0 : decode cX10_count 0 = .ok (.iload_n 1, 1) := dz1 (k := 0) (m := 1) dzb0_cX10_count_0 di_11 (Nat.zero_lt_succ _) rfl
theorem dX10_count_1 : decode cX10_count 1 = .ok (.tableswitch 156 0 11 #[63, 71, 79, 87, 95, 103, 111, 119, 127, 135, 143, 151], 63) := by decide +kernel
set_option maxRecDepth 100000 in
theorem dzb0_cX10_count_64 : DzLies cX10_count (.mk ⟨[0x2a, 0xb4, 0x00, 0x24, 0xb4, 0x00, 0x87, 0xac, 0x2a, 0xb4, 0x00, 0x2d, 0xb4, 0x00, 0xa4, 0xac, 0x2a, 0xb4, 0x00, 0x34, 0xb4, 0x00, 0x53, 0xac, 0x2a, 0xb4, 0x00, 0x2d, 0xb4, 0x01, 0x06, 0xac]⟩) 64 := dz_lies (m := 32) (Nat.zero_lt_succ _) rfl
theorem dX10_count_64 : decode cX10_count 64 = .ok (.aload_n 0, 1) := dz1 (k := 0) (m := 1) dzb0_cX10_count_64 di_0 (Nat.zero_lt_succ _) rfl
theorem dX10_count_65 : decode cX10_count 65 = .ok (.getfield 36, 3) := dz1 (k := 1) (m := 3) dzb0_cX10_count_64 di_205 (Nat.zero_lt_succ _) rfl
theorem dX10_count_68 : decode cX10_count 68 = .ok (.getfield 135, 3) := dz1 (k := 4) (m := 3) dzb0_cX10_count_64 di_270 (Nat.zero_lt_succ _) rfl
theorem dX10_count_71 : decode cX10_count 71 = .ok (.ireturn, 1) := dz1 (k := 7) (m := 1) dzb0_cX10_count_64 di_13 (Nat.zero_lt_succ _) rfl
theorem dX10_count_72 : decode cX10_count 72 = .ok (.aload_n 0, 1) := dz1 (k := 8) (m := 1) dzb0_cX10_count_64 di_0 (Nat.zero_lt_succ _) rfl
theorem dX10_count_73 : decode cX10_count 73 = .ok (.getfield 45, 3) := dz1 (k := 9) (m := 3) dzb0_cX10_count_64 di_153 (Nat.zero_lt_succ _) rfl
theorem dX10_count_76 : decode cX10_count 76 = .ok (.getfield 164, 3) := dz1 (k := 12) (m := 3) dzb0_cX10_count_64 di_294 (Nat.zero_lt_succ _) rfl
theorem dX10_count_79 : decode cX10_count 79 = .ok (.ireturn, 1) := dz1 (k := 15) (m := 1) dzb0_cX10_count_64 di_13 (Nat.zero_lt_succ _) rfl
theorem dX10_count_80 : decode cX10_count 80 = .ok (.aload_n 0, 1) := dz1 (k := 16) (m := 1) dzb0_cX10_count_64 di_0 (Nat.zero_lt_succ _) rfl
theorem dX10_count_81 : decode cX10_count 81 = .ok (.getfield 52, 3) := dz1 (k := 17) (m := 3) dzb0_cX10_count_64 di_266 (Nat.zero_lt_succ _) rfl
theorem dX10_count_84 : decode cX10_count 84 = .ok (.getfield 83, 3) := dz1 (k := 20) (m := 3) dzb0_cX10_count_64 di_309 (Nat.zero_lt_succ _) rfl
theorem dX10_count_87 : decode cX10_count 87 = .ok (.ireturn, 1) := dz1 (k := 23) (m := 1) dzb0_cX10_count_64 di_13 (Nat.zero_lt_succ _) rfl
theorem dX10_count_88 : decode cX10_count 88 = .ok (.aload_n 0, 1) := dz1 (k := 24) (m := 1) dzb0_cX10_count_64 di_0 (Nat.zero_lt_succ _) rfl
theorem dX10_count_89 : decode cX10_count 89 = .ok (.getfield 45, 3) := dz1 (k := 25) (m := 3) dzb0_cX10_count_64 di_153 (Nat.zero_lt_succ _) rfl
theorem dX10_count_92 : decode cX10_count 92 = .ok (.getfield 262, 3) := dz1 (k := 28) (m := 3) dzb0_cX10_count_64 di_359 (Nat.zero_lt_succ _) rfl
theorem dX10_count_95 : decode cX10_count 95 = .ok (.ireturn, 1) := dz1 (k := 31) (m := 1) dzb0_cX10_count_64 di_13 (Nat.zero_lt_succ _) rfl
set_option maxRecDepth 100000 in
theorem dzb0_cX10_count_96 : DzLies cX10_count (.mk ⟨[0x2a, 0xb4, 0x00, 0x2d, 0xb4, 0x00, 0xb1, 0xac, 0x2a, 0xb4, 0x00, 0x2d, 0xb4, 0x00, 0xdf, 0xac, 0x2a, 0xb4, 0x00, 0x2d, 0xb6, 0x01, 0x1f, 0xac, 0x2a, 0xb4, 0x00, 0x24, 0xb6, 0x01, 0x23, 0xac]⟩) 96 := dz_lies (m := 32) (Nat.zero_lt_succ _) rfl
theorem dX10_count_96 : decode cX10_count 96 = .ok (.aload_n 0, 1) := dz1 (k := 0) (m := 1) dzb0_cX10_count_96 di_0 (Nat.zero_lt_succ _) rfl
theorem dX10_count_97 : decode cX10_count 97 = .ok (.getfield 45, 3) := dz1 (k := 1) (m := 3) dzb0_cX10_count_96 di_153 (Nat.zero_lt_succ _) rfl
theorem dX10_count_100 : decode cX10_count 100 = .ok (.getfield 177, 3) := dz1 (k := 4) (m := 3) dzb0_cX10_count_96 di_300 (Nat.zero_lt_succ _) rfl
theorem dX10_count_103 : decode cX10_count 103 = .ok (.ireturn, 1) := dz1 (k := 7) (m := 1) dzb0_cX10_count_96 di_13 (Nat.zero_lt_succ _) rfl
theorem dX10_count_104 : decode cX10_count 104 = .ok (.aload_n 0, 1) := dz1 (k := 8) (m := 1) dzb0_cX10_count_96 di_0 (Nat.zero_lt_succ _) rfl
theorem dX10_count_105 : decode cX10_count 105 = .ok (.getfield 45, 3) := dz1 (k := 9) (m := 3) dzb0_cX10_count_96 di_153 (Nat.zero_lt_succ _) rfl
theorem dX10_count_108 : decode cX10_count 108 = .ok (.getfield 223, 3) := dz1 (k := 12) (m := 3) dzb0_cX10_count_96 di_333 (Nat.zero_lt_succ _) rfl
theorem dX10_count_111 : decode cX10_count 111 = .ok (.ireturn, 1) := dz1 (k := 15) (m := 1) dzb0_cX10_count_96 di_13 (Nat.zero_lt_succ _) rfl
theorem dX10_count_112 : decode cX10_count 112 = .ok (.aload_n 0, 1) := dz1 (k := 16) (m := 1) dzb0_cX10_count_96 di_0 (Nat.zero_lt_succ _) rfl
theorem dX10_count_113 : decode cX10_count 113 = .ok (.getfield 45, 3) := dz1 (k := 17) (m := 3) dzb0_cX10_count_96 di_153 (Nat.zero_lt_succ _) rfl
theorem dX10_count_116 : decode cX10_count 116 = .ok (.invokevirtual 287, 3) := dz1 (k := 20) (m := 3) dzb0_cX10_count_96 di_387 (Nat.zero_lt_succ _) rfl
theorem dX10_count_119 : decode cX10_count 119 = .ok (.ireturn, 1) := dz1 (k := 23) (m := 1) dzb0_cX10_count_96 di_13 (Nat.zero_lt_succ _) rfl
theorem dX10_count_120 : decode cX10_count 120 = .ok (.aload_n 0, 1) := dz1 (k := 24) (m := 1) dzb0_cX10_count_96 di_0 (Nat.zero_lt_succ _) rfl
theorem dX10_count_121 : decode cX10_count 121 = .ok (.getfield 36, 3) := dz1 (k := 25) (m := 3) dzb0_cX10_count_96 di_205 (Nat.zero_lt_succ _) rfl
theorem dX10_count_124 : decode cX10_count 124 = .ok (.invokevirtual 291, 3) := dz1 (k := 28) (m := 3) dzb0_cX10_count_96 di_388 (Nat.zero_lt_succ _) rfl
theorem dX10_count_127 : decode cX10_count 127 = .ok (.ireturn, 1) := dz1 (k := 31) (m := 1) dzb0_cX10_count_96 di_13 (Nat.zero_lt_succ _) rfl
set_option maxRecDepth 100000 in
theorem dzb0_cX10_count_128 : DzLies cX10_count (.mk ⟨[0x2a, 0xb4, 0x00, 0x24, 0xb6, 0x01, 0x26, 0xac, 0x2a, 0xb4, 0x00, 0x0e, 0xb8, 0x01, 0x29, 0xac, 0x2a, 0xb4, 0x00, 0x17, 0xb8, 0x01, 0x29, 0xac, 0x2a, 0xb6, 0x01, 0x2d, 0xac, 0x02, 0xac]⟩) 128 := dz_lies (m := 31) (Nat.zero_lt_succ _) rfl
theorem dX10_count_128 : decode cX10_count 128 = .ok (.aload_n 0, 1) := dz1 (k := 0) (m := 1) dzb0_cX10_count_128 di_0 (Nat.zero_lt_succ _) rfl
theorem dX10_count_129 : decode cX10_count 129 = .ok (.getfield 36, 3) := dz1 (k := 1) (m := 3) dzb0_cX10_count_128 di_205 (Nat.zero_lt_succ _) rfl
theorem dX10_count_132 : decode cX10_count 132 = .ok (.invokevirtual 294, 3) := dz1 (k := 4) (m := 3) dzb0_cX10_count_128 di_389 (Nat.zero_lt_succ _) rfl
theorem dX10_count_135 : decode cX10_count 135 = .ok (.ireturn, 1) := dz1 (k := 7) (m := 1) dzb0_cX10_count_128 di_13 (Nat.zero_lt_succ _) rfl
theorem dX10_count_136 : decode cX10_count 136 = .ok (.aload_n 0, 1) := dz1 (k := 8) (m := 1) dzb0_cX10_count_128 di_0 (Nat.zero_lt_succ _) rfl
theorem dX10_count_137 : decode cX10_count 137 = .ok (.getfield 14, 3) := dz1 (k := 9) (m := 3) dzb0_cX10_count_128 di_220 (Nat.zero_lt_succ _) rfl
theorem dX10_count_140 : decode cX10_count 140 = .ok (.invokestatic 297, 3) := dz1 (k := 12) (m := 3) dzb0_cX10_count_128 di_390 (Nat.zero_lt_succ _) rfl
theorem dX10_count_143 : decode cX10_count 143 = .ok (.ireturn, 1) := dz1 (k := 15) (m := 1) dzb0_cX10_count_128 di_13 (Nat.zero_lt_succ _) rfl
theorem dX10_count_144 : decode cX10_count 144 = .ok (.aload_n 0, 1) := dz1 (k := 16) (m := 1) dzb0_cX10_count_128 di_0 (Nat.zero_lt_succ _) rfl
theorem dX10_count_145 : decode cX10_count 145 = .ok (.getfield 23, 3) := dz1 (k := 17) (m := 3) dzb0_cX10_count_128 di_222 (Nat.zero_lt_succ _) rfl
theorem dX10_count_148 : decode cX10_count 148 = .ok (.invokestatic 297, 3) := dz1 (k := 20) (m := 3) dzb0_cX10_count_128 di_390 (Nat.zero_lt_succ _) rfl
theorem dX10_count_151 : decode cX10_count 151 = .ok (.ireturn, 1) := dz1 (k := 23) (m := 1) dzb0_cX10_count_128 di_13 (Nat.zero_lt_succ _) rfl
theorem dX10_count_152 : decode cX10_count 152 = .ok (.aload_n 0, 1) := dz1 (k := 24) (m := 1) dzb0_cX10_count_128 di_0 (Nat.zero_lt_succ _) rfl
theorem dX10_count_153 : decode cX10_count 153 = .ok (.invokevirtual 301, 3) := dz1 (k := 25) (m := 3) dzb0_cX10_count_128 di_391 (Nat.zero_lt_succ _) rfl
theorem dX10_count_156 : decode cX10_count 156 = .ok (.ireturn, 1) := dz1 (k := 28) (m := 1) dzb0_cX10_count_128 di_13 (Nat.zero_lt_succ _) rfl
theorem dX10_count_157 : decode cX10_count 157 = .ok (.iconst (-1), 1) := dz1 (k := 29) (m := 1) dzb0_cX10_count_128 di_65 (Nat.zero_lt_succ _) rfl
theorem dX10_count_158 : decode cX10_count 158 = .ok (.ireturn, 1) := dz1 (k := 30) (m := 1) dzb0_cX10_count_128 di_13 (Nat.zero_lt_succ _) rfl
set_option maxRecDepth 100000 in
theorem dzb0_cX10_finding_0 : DzLies cX10_finding (.mk ⟨[0x2a, 0xb4, 0x01, 0x30, 0xac]⟩) 0 := dz_lies (m := 5) (Nat.zero_lt_succ _) rfl
theorem dX10_finding_0 : decode cX10_finding 0 = .ok (.aload_n 0, 1) := dz1 (k := 0) (m := 1) dzb0_cX10_finding_0 di_0 (Nat.zero_lt_succ _) rfl
theorem dX10_finding_1 : decode cX10_finding 1 = .ok (.getfield 304, 3) := dz1 (k := 1) (m := 3) dzb0_cX10_finding_0 di_392 (Nat.zero_lt_succ _) rfl
theorem dX10_finding_4 : decode cX10_finding 4 = .ok (.ireturn, 1) := dz1 (k := 4) (m := 1) dzb0_cX10_finding_0 di_13 (Nat.zero_lt_succ _) rfl
set_option maxRecDepth 100000 in
theorem dzb0_cX10_findings_0 : DzLies cX10_findings (.mk ⟨[0x1b, 0x04, 0xa1, 0x00, 0x08, 0x1b, 0x08, 0xa4, 0x00, 0x05, 0x02, 0xac, 0x2a, 0xb4, 0x00, 0x4a, 0x1b, 0x2e, 0xac]⟩) 0 := dz_lies (m := 19) (Nat.zero_lt_succ _) rfl
theorem dX10_findings_0 : decode cX10_findings 0 = .ok (.iload_n 1, 1) := dz1 (k := 0) (m := 1) dzb0_cX10_findings_0 di_11 (Nat.zero_lt_succ _) rfl
theorem dX10_findings_1 : decode cX10_findings 1 = .ok (.iconst 1, 1) := dz1 (k := 1) (m := 1) dzb0_cX10_findings_0 di_10 (Nat.zero_lt_succ _) rfl
theorem dX10_findings_2 : decode cX10_findings 2 = .ok (.if_icmp .lt 8, 3) := dz1 (k := 2) (m := 3) dzb0_cX10_findings_0 di_278 (Nat.zero_lt_succ _) rfl
theorem dX10_findings_5 : decode cX10_findings 5 = .ok (.iload_n 1, 1) := dz1 (k := 5) (m := 1) dzb0_cX10_findings_0 di_11 (Nat.zero_lt_succ _) rfl
theorem dX10_findings_6 : decode cX10_findings 6 = .ok (.iconst 5, 1) := dz1 (k := 6) (m := 1) dzb0_cX10_findings_0 di_145 (Nat.zero_lt_succ _) rfl
theorem dX10_findings_7 : decode cX10_findings 7 = .ok (.if_icmp .le 5, 3) := dz1 (k := 7) (m := 3) dzb0_cX10_findings_0 di_230 (Nat.zero_lt_succ _) rfl
theorem dX10_findings_10 : decode cX10_findings 10 = .ok (.iconst (-1), 1) := dz1 (k := 10) (m := 1) dzb0_cX10_findings_0 di_65 (Nat.zero_lt_succ _) rfl
theorem dX10_findings_11 : decode cX10_findings 11 = .ok (.ireturn, 1) := dz1 (k := 11) (m := 1) dzb0_cX10_findings_0 di_13 (Nat.zero_lt_succ _) rfl
theorem dX10_findings_12 : decode cX10_findings 12 = .ok (.aload_n 0, 1) := dz1 (k := 12) (m := 1) dzb0_cX10_findings_0 di_0 (Nat.zero_lt_succ _) rfl
theorem dX10_findings_13 : decode cX10_findings 13 = .ok (.getfield 74, 3) := dz1 (k := 13) (m := 3) dzb0_cX10_findings_0 di_393 (Nat.zero_lt_succ _) rfl
theorem dX10_findings_16 : decode cX10_findings 16 = .ok (.iload_n 1, 1) := dz1 (k := 16) (m := 1) dzb0_cX10_findings_0 di_11 (Nat.zero_lt_succ _) rfl
theorem dX10_findings_17 : decode cX10_findings 17 = .ok (.iaload, 1) := dz1 (k := 17) (m := 1) dzb0_cX10_findings_0 di_30 (Nat.zero_lt_succ _) rfl
theorem dX10_findings_18 : decode cX10_findings 18 = .ok (.ireturn, 1) := dz1 (k := 18) (m := 1) dzb0_cX10_findings_0 di_13 (Nat.zero_lt_succ _) rfl
set_option maxRecDepth 100000 in
theorem dzb0_cX10_digest_0 : DzLies cX10_digest (.mk ⟨[0x14, 0x01, 0x33, 0x40, 0x03, 0x3e, 0x1d, 0x10, 0x0b, 0xa3, 0x00, 0x16, 0x14, 0x01, 0x35, 0x1f, 0x69, 0x2a, 0x1d, 0xb6, 0x01, 0x37, 0x85, 0x61, 0x40, 0x84, 0x03, 0x01, 0xa7, 0xff, 0xea, 0x03]⟩) 0 := dz_lies (m := 32) (Nat.zero_lt_succ _) rfl
theorem dX10_digest_0 : decode cX10_digest 0 = .ok (.ldc2_w 307, 3) := dz1 (k := 0) (m := 3) dzb0_cX10_digest_0 di_394 (Nat.zero_lt_succ _) rfl
theorem dX10_digest_3 : decode cX10_digest 3 = .ok (.lstore_n 1, 1) := dz1 (k := 3) (m := 1) dzb0_cX10_digest_0 di_395 (Nat.zero_lt_succ _) rfl
theorem dX10_digest_4 : decode cX10_digest 4 = .ok (.iconst 0, 1) := dz1 (k := 4) (m := 1) dzb0_cX10_digest_0 di_8 (Nat.zero_lt_succ _) rfl
theorem dX10_digest_5 : decode cX10_digest 5 = .ok (.istore_n 3, 1) := dz1 (k := 5) (m := 1) dzb0_cX10_digest_0 di_50 (Nat.zero_lt_succ _) rfl
theorem dX10_digest_6 : decode cX10_digest 6 = .ok (.iload_n 3, 1) := dz1 (k := 6) (m := 1) dzb0_cX10_digest_0 di_3 (Nat.zero_lt_succ _) rfl
theorem dX10_digest_7 : decode cX10_digest 7 = .ok (.bipush 11, 2) := dz1 (k := 7) (m := 2) dzb0_cX10_digest_0 di_396 (Nat.zero_lt_succ _) rfl
theorem dX10_digest_9 : decode cX10_digest 9 = .ok (.if_icmp .gt 22, 3) := dz1 (k := 9) (m := 3) dzb0_cX10_digest_0 di_397 (Nat.zero_lt_succ _) rfl
theorem dX10_digest_12 : decode cX10_digest 12 = .ok (.ldc2_w 309, 3) := dz1 (k := 12) (m := 3) dzb0_cX10_digest_0 di_398 (Nat.zero_lt_succ _) rfl
theorem dX10_digest_15 : decode cX10_digest 15 = .ok (.lload_n 1, 1) := dz1 (k := 15) (m := 1) dzb0_cX10_digest_0 di_399 (Nat.zero_lt_succ _) rfl
theorem dX10_digest_16 : decode cX10_digest 16 = .ok (.lmul, 1) := dz1 (k := 16) (m := 1) dzb0_cX10_digest_0 di_380 (Nat.zero_lt_succ _) rfl
theorem dX10_digest_17 : decode cX10_digest 17 = .ok (.aload_n 0, 1) := dz1 (k := 17) (m := 1) dzb0_cX10_digest_0 di_0 (Nat.zero_lt_succ _) rfl
theorem dX10_digest_18 : decode cX10_digest 18 = .ok (.iload_n 3, 1) := dz1 (k := 18) (m := 1) dzb0_cX10_digest_0 di_3 (Nat.zero_lt_succ _) rfl
theorem dX10_digest_19 : decode cX10_digest 19 = .ok (.invokevirtual 311, 3) := dz1 (k := 19) (m := 3) dzb0_cX10_digest_0 di_400 (Nat.zero_lt_succ _) rfl
theorem dX10_digest_22 : decode cX10_digest 22 = .ok (.i2l, 1) := dz1 (k := 22) (m := 1) dzb0_cX10_digest_0 di_250 (Nat.zero_lt_succ _) rfl
theorem dX10_digest_23 : decode cX10_digest 23 = .ok (.ladd, 1) := dz1 (k := 23) (m := 1) dzb0_cX10_digest_0 di_251 (Nat.zero_lt_succ _) rfl
theorem dX10_digest_24 : decode cX10_digest 24 = .ok (.lstore_n 1, 1) := dz1 (k := 24) (m := 1) dzb0_cX10_digest_0 di_395 (Nat.zero_lt_succ _) rfl
theorem dX10_digest_25 : decode cX10_digest 25 = .ok (.iinc 3 1, 3) := dz1 (k := 25) (m := 3) dzb0_cX10_digest_0 di_94 (Nat.zero_lt_succ _) rfl
theorem dX10_digest_28 : decode cX10_digest 28 = .ok (.goto (-22), 3) := dz1 (k := 28) (m := 3) dzb0_cX10_digest_0 di_401 (Nat.zero_lt_succ _) rfl
theorem dX10_digest_31 : decode cX10_digest 31 = .ok (.iconst 0, 1) := dz1 (k := 31) (m := 1) dzb0_cX10_digest_0 di_8 (Nat.zero_lt_succ _) rfl
set_option maxRecDepth 100000 in
theorem dzb0_cX10_digest_32 : DzLies cX10_digest (.mk ⟨[0x3e, 0x1d, 0x2a, 0xb4, 0x00, 0x24, 0xb4, 0x00, 0x87, 0xa2, 0x00, 0x4b, 0x03, 0x36, 0x04, 0x15, 0x04, 0x07, 0xa3, 0x00, 0x18, 0x14, 0x01, 0x35, 0x1f, 0x69, 0x2a, 0x1d, 0x15, 0x04, 0xb6, 0x00, 0x8d]⟩) 32 := dz_lies (m := 33) (Nat.zero_lt_succ _) rfl
theorem dX10_digest_32 : decode cX10_digest 32 = .ok (.istore_n 3, 1) := dz1 (k := 0) (m := 1) dzb0_cX10_digest_32 di_50 (Nat.zero_lt_succ _) rfl
theorem dX10_digest_33 : decode cX10_digest 33 = .ok (.iload_n 3, 1) := dz1 (k := 1) (m := 1) dzb0_cX10_digest_32 di_3 (Nat.zero_lt_succ _) rfl
theorem dX10_digest_34 : decode cX10_digest 34 = .ok (.aload_n 0, 1) := dz1 (k := 2) (m := 1) dzb0_cX10_digest_32 di_0 (Nat.zero_lt_succ _) rfl
theorem dX10_digest_35 : decode cX10_digest 35 = .ok (.getfield 36, 3) := dz1 (k := 3) (m := 3) dzb0_cX10_digest_32 di_205 (Nat.zero_lt_succ _) rfl
theorem dX10_digest_38 : decode cX10_digest 38 = .ok (.getfield 135, 3) := dz1 (k := 6) (m := 3) dzb0_cX10_digest_32 di_270 (Nat.zero_lt_succ _) rfl
theorem dX10_digest_41 : decode cX10_digest 41 = .ok (.if_icmp .ge 75, 3) := dz1 (k := 9) (m := 3) dzb0_cX10_digest_32 di_402 (Nat.zero_lt_succ _) rfl
theorem dX10_digest_44 : decode cX10_digest 44 = .ok (.iconst 0, 1) := dz1 (k := 12) (m := 1) dzb0_cX10_digest_32 di_8 (Nat.zero_lt_succ _) rfl
theorem dX10_digest_45 : decode cX10_digest 45 = .ok (.istore 4, 2) := dz1 (k := 13) (m := 2) dzb0_cX10_digest_32 di_51 (Nat.zero_lt_succ _) rfl
theorem dX10_digest_47 : decode cX10_digest 47 = .ok (.iload 4, 2) := dz1 (k := 15) (m := 2) dzb0_cX10_digest_32 di_52 (Nat.zero_lt_succ _) rfl
theorem dX10_digest_49 : decode cX10_digest 49 = .ok (.iconst 4, 1) := dz1 (k := 17) (m := 1) dzb0_cX10_digest_32 di_33 (Nat.zero_lt_succ _) rfl
theorem dX10_digest_50 : decode cX10_digest 50 = .ok (.if_icmp .gt 24, 3) := dz1 (k := 18) (m := 3) dzb0_cX10_digest_32 di_403 (Nat.zero_lt_succ _) rfl
theorem dX10_digest_53 : decode cX10_digest 53 = .ok (.ldc2_w 309, 3) := dz1 (k := 21) (m := 3) dzb0_cX10_digest_32 di_398 (Nat.zero_lt_succ _) rfl
theorem dX10_digest_56 : decode cX10_digest 56 = .ok (.lload_n 1, 1) := dz1 (k := 24) (m := 1) dzb0_cX10_digest_32 di_399 (Nat.zero_lt_succ _) rfl
theorem dX10_digest_57 : decode cX10_digest 57 = .ok (.lmul, 1) := dz1 (k := 25) (m := 1) dzb0_cX10_digest_32 di_380 (Nat.zero_lt_succ _) rfl
theorem dX10_digest_58 : decode cX10_digest 58 = .ok (.aload_n 0, 1) := dz1 (k := 26) (m := 1) dzb0_cX10_digest_32 di_0 (Nat.zero_lt_succ _) rfl
theorem dX10_digest_59 : decode cX10_digest 59 = .ok (.iload_n 3, 1) := dz1 (k := 27) (m := 1) dzb0_cX10_digest_32 di_3 (Nat.zero_lt_succ _) rfl
theorem dX10_digest_60 : decode cX10_digest 60 = .ok (.iload 4, 2) := dz1 (k := 28) (m := 2) dzb0_cX10_digest_32 di_52 (Nat.zero_lt_succ _) rfl
theorem dX10_digest_62 : decode cX10_digest 62 = .ok (.invokevirtual 141, 3) := dz1 (k := 30) (m := 3) dzb0_cX10_digest_32 di_274 (Nat.zero_lt_succ _) rfl
set_option maxRecDepth 100000 in
theorem dzb0_cX10_digest_64 : DzLies cX10_digest (.mk ⟨[0x8d, 0x85, 0x61, 0x40, 0x84, 0x04, 0x01, 0xa7, 0xff, 0xe8, 0x03, 0x36, 0x04, 0x15, 0x04, 0x10, 0x06, 0xa2, 0x00, 0x1d, 0x14, 0x01, 0x35, 0x1f, 0x69, 0x2a, 0xb4, 0x00, 0x24, 0xb4, 0x00, 0x93]⟩) 64 := dz_lies (m := 32) (Nat.zero_lt_succ _) rfl
theorem dX10_digest_65 : decode cX10_digest 65 = .ok (.i2l, 1) := dz1 (k := 1) (m := 1) dzb0_cX10_digest_64 di_250 (Nat.zero_lt_succ _) rfl
theorem dX10_digest_66 : decode cX10_digest 66 = .ok (.ladd, 1) := dz1 (k := 2) (m := 1) dzb0_cX10_digest_64 di_251 (Nat.zero_lt_succ _) rfl
theorem dX10_digest_67 : decode cX10_digest 67 = .ok (.lstore_n 1, 1) := dz1 (k := 3) (m := 1) dzb0_cX10_digest_64 di_395 (Nat.zero_lt_succ _) rfl
theorem dX10_digest_68 : decode cX10_digest 68 = .ok (.iinc 4 1, 3) := dz1 (k := 4) (m := 3) dzb0_cX10_digest_64 di_63 (Nat.zero_lt_succ _) rfl
theorem dX10_digest_71 : decode cX10_digest 71 = .ok (.goto (-24), 3) := dz1 (k := 7) (m := 3) dzb0_cX10_digest_64 di_253 (Nat.zero_lt_succ _) rfl
theorem dX10_digest_74 : decode cX10_digest 74 = .ok (.iconst 0, 1) := dz1 (k := 10) (m := 1) dzb0_cX10_digest_64 di_8 (Nat.zero_lt_succ _) rfl
theorem dX10_digest_75 : decode cX10_digest 75 = .ok (.istore 4, 2) := dz1 (k := 11) (m := 2) dzb0_cX10_digest_64 di_51 (Nat.zero_lt_succ _) rfl
theorem dX10_digest_77 : decode cX10_digest 77 = .ok (.iload 4, 2) := dz1 (k := 13) (m := 2) dzb0_cX10_digest_64 di_52 (Nat.zero_lt_succ _) rfl
theorem dX10_digest_79 : decode cX10_digest 79 = .ok (.bipush 6, 2) := dz1 (k := 15) (m := 2) dzb0_cX10_digest_64 di_86 (Nat.zero_lt_succ _) rfl
theorem dX10_digest_81 : decode cX10_digest 81 = .ok (.if_icmp .ge 29, 3) := dz1 (k := 17) (m := 3) dzb0_cX10_digest_64 di_404 (Nat.zero_lt_succ _) rfl
theorem dX10_digest_84 : decode cX10_digest 84 = .ok (.ldc2_w 309, 3) := dz1 (k := 20) (m := 3) dzb0_cX10_digest_64 di_398 (Nat.zero_lt_succ _) rfl
theorem dX10_digest_87 : decode cX10_digest 87 = .ok (.lload_n 1, 1) := dz1 (k := 23) (m := 1) dzb0_cX10_digest_64 di_399 (Nat.zero_lt_succ _) rfl
theorem dX10_digest_88 : decode cX10_digest 88 = .ok (.lmul, 1) := dz1 (k := 24) (m := 1) dzb0_cX10_digest_64 di_380 (Nat.zero_lt_succ _) rfl
theorem dX10_digest_89 : decode cX10_digest 89 = .ok (.aload_n 0, 1) := dz1 (k := 25) (m := 1) dzb0_cX10_digest_64 di_0 (Nat.zero_lt_succ _) rfl
theorem dX10_digest_90 : decode cX10_digest 90 = .ok (.getfield 36, 3) := dz1 (k := 26) (m := 3) dzb0_cX10_digest_64 di_205 (Nat.zero_lt_succ _) rfl
theorem dX10_digest_93 : decode cX10_digest 93 = .ok (.getfield 147, 3) := dz1 (k := 29) (m := 3) dzb0_cX10_digest_64 di_276 (Nat.zero_lt_succ _) rfl
set_option maxRecDepth 100000 in
theorem dzb0_cX10_digest_96 : DzLies cX10_digest (.mk ⟨[0x1d, 0x32, 0x15, 0x04, 0x2e, 0x85, 0x61, 0x40, 0x84, 0x04, 0x01, 0xa7, 0xff, 0xe2, 0x84, 0x03, 0x01, 0xa7, 0xff, 0xb0, 0x03, 0x3e, 0x1d, 0x06, 0xa2, 0x00, 0x1a, 0x14, 0x01, 0x35, 0x1f, 0x69]⟩) 96 := dz_lies (m := 32) (Nat.zero_lt_succ _) rfl
theorem dX10_digest_96 : decode cX10_digest 96 = .ok (.iload_n 3, 1) := dz1 (k := 0) (m := 1) dzb0_cX10_digest_96 di_3 (Nat.zero_lt_succ _) rfl
theorem dX10_digest_97 : decode cX10_digest 97 = .ok (.aaload, 1) := dz1 (k := 1) (m := 1) dzb0_cX10_digest_96 di_130 (Nat.zero_lt_succ _) rfl
theorem dX10_digest_98 : decode cX10_digest 98 = .ok (.iload 4, 2) := dz1 (k := 2) (m := 2) dzb0_cX10_digest_96 di_52 (Nat.zero_lt_succ _) rfl
theorem dX10_digest_100 : decode cX10_digest 100 = .ok (.iaload, 1) := dz1 (k := 4) (m := 1) dzb0_cX10_digest_96 di_30 (Nat.zero_lt_succ _) rfl
theorem dX10_digest_101 : decode cX10_digest 101 = .ok (.i2l, 1) := dz1 (k := 5) (m := 1) dzb0_cX10_digest_96 di_250 (Nat.zero_lt_succ _) rfl
theorem dX10_digest_102 : decode cX10_digest 102 = .ok (.ladd, 1) := dz1 (k := 6) (m := 1) dzb0_cX10_digest_96 di_251 (Nat.zero_lt_succ _) rfl
theorem dX10_digest_103 : decode cX10_digest 103 = .ok (.lstore_n 1, 1) := dz1 (k := 7) (m := 1) dzb0_cX10_digest_96 di_395 (Nat.zero_lt_succ _) rfl
theorem dX10_digest_104 : decode cX10_digest 104 = .ok (.iinc 4 1, 3) := dz1 (k := 8) (m := 3) dzb0_cX10_digest_96 di_63 (Nat.zero_lt_succ _) rfl
theorem dX10_digest_107 : decode cX10_digest 107 = .ok (.goto (-30), 3) := dz1 (k := 11) (m := 3) dzb0_cX10_digest_96 di_346 (Nat.zero_lt_succ _) rfl
theorem dX10_digest_110 : decode cX10_digest 110 = .ok (.iinc 3 1, 3) := dz1 (k := 14) (m := 3) dzb0_cX10_digest_96 di_94 (Nat.zero_lt_succ _) rfl
theorem dX10_digest_113 : decode cX10_digest 113 = .ok (.goto (-80), 3) := dz1 (k := 17) (m := 3) dzb0_cX10_digest_96 di_405 (Nat.zero_lt_succ _) rfl
theorem dX10_digest_116 : decode cX10_digest 116 = .ok (.iconst 0, 1) := dz1 (k := 20) (m := 1) dzb0_cX10_digest_96 di_8 (Nat.zero_lt_succ _) rfl
theorem dX10_digest_117 : decode cX10_digest 117 = .ok (.istore_n 3, 1) := dz1 (k := 21) (m := 1) dzb0_cX10_digest_96 di_50 (Nat.zero_lt_succ _) rfl
theorem dX10_digest_118 : decode cX10_digest 118 = .ok (.iload_n 3, 1) := dz1 (k := 22) (m := 1) dzb0_cX10_digest_96 di_3 (Nat.zero_lt_succ _) rfl
theorem dX10_digest_119 : decode cX10_digest 119 = .ok (.iconst 3, 1) := dz1 (k := 23) (m := 1) dzb0_cX10_digest_96 di_4 (Nat.zero_lt_succ _) rfl
theorem dX10_digest_120 : decode cX10_digest 120 = .ok (.if_icmp .ge 26, 3) := dz1 (k := 24) (m := 3) dzb0_cX10_digest_96 di_378 (Nat.zero_lt_succ _) rfl
theorem dX10_digest_123 : decode cX10_digest 123 = .ok (.ldc2_w 309, 3) := dz1 (k := 27) (m := 3) dzb0_cX10_digest_96 di_398 (Nat.zero_lt_succ _) rfl
theorem dX10_digest_126 : decode cX10_digest 126 = .ok (.lload_n 1, 1) := dz1 (k := 30) (m := 1) dzb0_cX10_digest_96 di_399 (Nat.zero_lt_succ _) rfl
theorem dX10_digest_127 : decode cX10_digest 127 = .ok (.lmul, 1) := dz1 (k := 31) (m := 1) dzb0_cX10_digest_96 di_380 (Nat.zero_lt_succ _) rfl
set_option maxRecDepth 100000 in
theorem dzb0_cX10_digest_128 : DzLies cX10_digest (.mk ⟨[0x2a, 0xb4, 0x00, 0x38, 0x1d, 0x32, 0xb4, 0x00, 0x53, 0x85, 0x61, 0x40, 0x84, 0x03, 0x01, 0xa7, 0xff, 0xe7, 0x03, 0x3e, 0x1d, 0x10, 0x06, 0xa2, 0x00, 0x3c, 0x14, 0x01, 0x35, 0x1f, 0x69, 0x2a]⟩) 128 := dz_lies (m := 32) (Nat.zero_lt_succ _) rfl
theorem dX10_digest_128 : decode cX10_digest 128 = .ok (.aload_n 0, 1) := dz1 (k := 0) (m := 1) dzb0_cX10_digest_128 di_0 (Nat.zero_lt_succ _) rfl
theorem dX10_digest_129 : decode cX10_digest 129 = .ok (.getfield 56, 3) := dz1 (k := 1) (m := 3) dzb0_cX10_digest_128 di_224 (Nat.zero_lt_succ _) rfl
theorem dX10_digest_132 : decode cX10_digest 132 = .ok (.iload_n 3, 1) := dz1 (k := 4) (m := 1) dzb0_cX10_digest_128 di_3 (Nat.zero_lt_succ _) rfl
theorem dX10_digest_133 : decode cX10_digest 133 = .ok (.aaload, 1) := dz1 (k := 5) (m := 1) dzb0_cX10_digest_128 di_130 (Nat.zero_lt_succ _) rfl
theorem dX10_digest_134 : decode cX10_digest 134 = .ok (.getfield 83, 3) := dz1 (k := 6) (m := 3) dzb0_cX10_digest_128 di_309 (Nat.zero_lt_succ _) rfl
theorem dX10_digest_137 : decode cX10_digest 137 = .ok (.i2l, 1) := dz1 (k := 9) (m := 1) dzb0_cX10_digest_128 di_250 (Nat.zero_lt_succ _) rfl
theorem dX10_digest_138 : decode cX10_digest 138 = .ok (.ladd, 1) := dz1 (k := 10) (m := 1) dzb0_cX10_digest_128 di_251 (Nat.zero_lt_succ _) rfl
theorem dX10_digest_139 : decode cX10_digest 139 = .ok (.lstore_n 1, 1) := dz1 (k := 11) (m := 1) dzb0_cX10_digest_128 di_395 (Nat.zero_lt_succ _) rfl
theorem dX10_digest_140 : decode cX10_digest 140 = .ok (.iinc 3 1, 3) := dz1 (k := 12) (m := 3) dzb0_cX10_digest_128 di_94 (Nat.zero_lt_succ _) rfl
theorem dX10_digest_143 : decode cX10_digest 143 = .ok (.goto (-25), 3) := dz1 (k := 15) (m := 3) dzb0_cX10_digest_128 di_172 (Nat.zero_lt_succ _) rfl
theorem dX10_digest_146 : decode cX10_digest 146 = .ok (.iconst 0, 1) := dz1 (k := 18) (m := 1) dzb0_cX10_digest_128 di_8 (Nat.zero_lt_succ _) rfl
theorem dX10_digest_147 : decode cX10_digest 147 = .ok (.istore_n 3, 1) := dz1 (k := 19) (m := 1) dzb0_cX10_digest_128 di_50 (Nat.zero_lt_succ _) rfl
theorem dX10_digest_148 : decode cX10_digest 148 = .ok (.iload_n 3, 1) := dz1 (k := 20) (m := 1) dzb0_cX10_digest_128 di_3 (Nat.zero_lt_succ _) rfl
theorem dX10_digest_149 : decode cX10_digest 149 = .ok (.bipush 6, 2) := dz1 (k := 21) (m := 2) dzb0_cX10_digest_128 di_86 (Nat.zero_lt_succ _) rfl
theorem dX10_digest_151 : decode cX10_digest 151 = .ok (.if_icmp .ge 60, 3) := dz1 (k := 23) (m := 3) dzb0_cX10_digest_128 di_406 (Nat.zero_lt_succ _) rfl
theorem dX10_digest_154 : decode cX10_digest 154 = .ok (.ldc2_w 309, 3) := dz1 (k := 26) (m := 3) dzb0_cX10_digest_128 di_398 (Nat.zero_lt_succ _) rfl
theorem dX10_digest_157 : decode cX10_digest 157 = .ok (.lload_n 1, 1) := dz1 (k := 29) (m := 1) dzb0_cX10_digest_128 di_399 (Nat.zero_lt_succ _) rfl
theorem dX10_digest_158 : decode cX10_digest 158 = .ok (.lmul, 1) := dz1 (k := 30) (m := 1) dzb0_cX10_digest_128 di_380 (Nat.zero_lt_succ _) rfl
theorem dX10_digest_159 : decode cX10_digest 159 = .ok (.aload_n 0, 1) := dz1 (k := 31) (m := 1) dzb0_cX10_digest_128 di_0 (Nat.zero_lt_succ _) rfl
set_option maxRecDepth 100000 in
theorem dzb0_cX10_digest_160 : DzLies cX10_digest (.mk ⟨[0xb4, 0x00, 0x0e, 0x1d, 0x2e, 0x85, 0x61, 0x40, 0x03, 0x36, 0x04, 0x15, 0x04, 0x2a, 0xb4, 0x00, 0x0e, 0x1d, 0x2e, 0xa2, 0x00, 0x1a, 0x14, 0x01, 0x35, 0x1f, 0x69, 0x2a, 0xb4, 0x00, 0x0b, 0x1d]⟩) 160 := dz_lies (m := 32) (Nat.zero_lt_succ _) rfl
theorem dX10_digest_160 : decode cX10_digest 160 = .ok (.getfield 14, 3) := dz1 (k := 0) (m := 3) dzb0_cX10_digest_160 di_220 (Nat.zero_lt_succ _) rfl
theorem dX10_digest_163 : decode cX10_digest 163 = .ok (.iload_n 3, 1) := dz1 (k := 3) (m := 1) dzb0_cX10_digest_160 di_3 (Nat.zero_lt_succ _) rfl
theorem dX10_digest_164 : decode cX10_digest 164 = .ok (.iaload, 1) := dz1 (k := 4) (m := 1) dzb0_cX10_digest_160 di_30 (Nat.zero_lt_succ _) rfl
theorem dX10_digest_165 : decode cX10_digest 165 = .ok (.i2l, 1) := dz1 (k := 5) (m := 1) dzb0_cX10_digest_160 di_250 (Nat.zero_lt_succ _) rfl
theorem dX10_digest_166 : decode cX10_digest 166 = .ok (.ladd, 1) := dz1 (k := 6) (m := 1) dzb0_cX10_digest_160 di_251 (Nat.zero_lt_succ _) rfl
theorem dX10_digest_167 : decode cX10_digest 167 = .ok (.lstore_n 1, 1) := dz1 (k := 7) (m := 1) dzb0_cX10_digest_160 di_395 (Nat.zero_lt_succ _) rfl
theorem dX10_digest_168 : decode cX10_digest 168 = .ok (.iconst 0, 1) := dz1 (k := 8) (m := 1) dzb0_cX10_digest_160 di_8 (Nat.zero_lt_succ _) rfl
theorem dX10_digest_169 : decode cX10_digest 169 = .ok (.istore 4, 2) := dz1 (k := 9) (m := 2) dzb0_cX10_digest_160 di_51 (Nat.zero_lt_succ _) rfl
theorem dX10_digest_171 : decode cX10_digest 171 = .ok (.iload 4, 2) := dz1 (k := 11) (m := 2) dzb0_cX10_digest_160 di_52 (Nat.zero_lt_succ _) rfl
theorem dX10_digest_173 : decode cX10_digest 173 = .ok (.aload_n 0, 1) := dz1 (k := 13) (m := 1) dzb0_cX10_digest_160 di_0 (Nat.zero_lt_succ _) rfl
theorem dX10_digest_174 : decode cX10_digest 174 = .ok (.getfield 14, 3) := dz1 (k := 14) (m := 3) dzb0_cX10_digest_160 di_220 (Nat.zero_lt_succ _) rfl
theorem dX10_digest_177 : decode cX10_digest 177 = .ok (.iload_n 3, 1) := dz1 (k := 17) (m := 1) dzb0_cX10_digest_160 di_3 (Nat.zero_lt_succ _) rfl
theorem dX10_digest_178 : decode cX10_digest 178 = .ok (.iaload, 1) := dz1 (k := 18) (m := 1) dzb0_cX10_digest_160 di_30 (Nat.zero_lt_succ _) rfl
theorem dX10_digest_179 : decode cX10_digest 179 = .ok (.if_icmp .ge 26, 3) := dz1 (k := 19) (m := 3) dzb0_cX10_digest_160 di_378 (Nat.zero_lt_succ _) rfl
theorem dX10_digest_182 : decode cX10_digest 182 = .ok (.ldc2_w 309, 3) := dz1 (k := 22) (m := 3) dzb0_cX10_digest_160 di_398 (Nat.zero_lt_succ _) rfl
theorem dX10_digest_185 : decode cX10_digest 185 = .ok (.lload_n 1, 1) := dz1 (k := 25) (m := 1) dzb0_cX10_digest_160 di_399 (Nat.zero_lt_succ _) rfl
theorem dX10_digest_186 : decode cX10_digest 186 = .ok (.lmul, 1) := dz1 (k := 26) (m := 1) dzb0_cX10_digest_160 di_380 (Nat.zero_lt_succ _) rfl
theorem dX10_digest_187 : decode cX10_digest 187 = .ok (.aload_n 0, 1) := dz1 (k := 27) (m := 1) dzb0_cX10_digest_160 di_0 (Nat.zero_lt_succ _) rfl
theorem dX10_digest_188 : decode cX10_digest 188 = .ok (.getfield 11, 3) := dz1 (k := 28) (m := 3) dzb0_cX10_digest_160 di_233 (Nat.zero_lt_succ _) rfl
theorem dX10_digest_191 : decode cX10_digest 191 = .ok (.iload_n 3, 1) := dz1 (k := 31) (m := 1) dzb0_cX10_digest_160 di_3 (Nat.zero_lt_succ _) rfl
set_option maxRecDepth 100000 in
theorem dzb0_cX10_digest_192 : DzLies cX10_digest (.mk ⟨[0x32, 0x15, 0x04, 0x2e, 0x85, 0x61, 0x40, 0x84, 0x04, 0x01, 0xa7, 0xff, 0xe1, 0x84, 0x03, 0x01, 0xa7, 0xff, 0xc4, 0x03, 0x3e, 0x1d, 0x07, 0xa2, 0x00, 0x3c, 0x14, 0x01, 0x35, 0x1f, 0x69, 0x2a]⟩) 192 := dz_lies (m := 32) (Nat.zero_lt_succ _) rfl
theorem dX10_digest_192 : decode cX10_digest 192 = .ok (.aaload, 1) := dz1 (k := 0) (m := 1) dzb0_cX10_digest_192 di_130 (Nat.zero_lt_succ _) rfl
theorem dX10_digest_193 : decode cX10_digest 193 = .ok (.iload 4, 2) := dz1 (k := 1) (m := 2) dzb0_cX10_digest_192 di_52 (Nat.zero_lt_succ _) rfl
theorem dX10_digest_195 : decode cX10_digest 195 = .ok (.iaload, 1) := dz1 (k := 3) (m := 1) dzb0_cX10_digest_192 di_30 (Nat.zero_lt_succ _) rfl
theorem dX10_digest_196 : decode cX10_digest 196 = .ok (.i2l, 1) := dz1 (k := 4) (m := 1) dzb0_cX10_digest_192 di_250 (Nat.zero_lt_succ _) rfl
theorem dX10_digest_197 : decode cX10_digest 197 = .ok (.ladd, 1) := dz1 (k := 5) (m := 1) dzb0_cX10_digest_192 di_251 (Nat.zero_lt_succ _) rfl
theorem dX10_digest_198 : decode cX10_digest 198 = .ok (.lstore_n 1, 1) := dz1 (k := 6) (m := 1) dzb0_cX10_digest_192 di_395 (Nat.zero_lt_succ _) rfl
theorem dX10_digest_199 : decode cX10_digest 199 = .ok (.iinc 4 1, 3) := dz1 (k := 7) (m := 3) dzb0_cX10_digest_192 di_63 (Nat.zero_lt_succ _) rfl
theorem dX10_digest_202 : decode cX10_digest 202 = .ok (.goto (-31), 3) := dz1 (k := 10) (m := 3) dzb0_cX10_digest_192 di_169 (Nat.zero_lt_succ _) rfl
theorem dX10_digest_205 : decode cX10_digest 205 = .ok (.iinc 3 1, 3) := dz1 (k := 13) (m := 3) dzb0_cX10_digest_192 di_94 (Nat.zero_lt_succ _) rfl
theorem dX10_digest_208 : decode cX10_digest 208 = .ok (.goto (-60), 3) := dz1 (k := 16) (m := 3) dzb0_cX10_digest_192 di_407 (Nat.zero_lt_succ _) rfl
theorem dX10_digest_211 : decode cX10_digest 211 = .ok (.iconst 0, 1) := dz1 (k := 19) (m := 1) dzb0_cX10_digest_192 di_8 (Nat.zero_lt_succ _) rfl
theorem dX10_digest_212 : decode cX10_digest 212 = .ok (.istore_n 3, 1) := dz1 (k := 20) (m := 1) dzb0_cX10_digest_192 di_50 (Nat.zero_lt_succ _) rfl
theorem dX10_digest_213 : decode cX10_digest 213 = .ok (.iload_n 3, 1) := dz1 (k := 21) (m := 1) dzb0_cX10_digest_192 di_3 (Nat.zero_lt_succ _) rfl
theorem dX10_digest_214 : decode cX10_digest 214 = .ok (.iconst 4, 1) := dz1 (k := 22) (m := 1) dzb0_cX10_digest_192 di_33 (Nat.zero_lt_succ _) rfl
theorem dX10_digest_215 : decode cX10_digest 215 = .ok (.if_icmp .ge 60, 3) := dz1 (k := 23) (m := 3) dzb0_cX10_digest_192 di_406 (Nat.zero_lt_succ _) rfl
theorem dX10_digest_218 : decode cX10_digest 218 = .ok (.ldc2_w 309, 3) := dz1 (k := 26) (m := 3) dzb0_cX10_digest_192 di_398 (Nat.zero_lt_succ _) rfl
theorem dX10_digest_221 : decode cX10_digest 221 = .ok (.lload_n 1, 1) := dz1 (k := 29) (m := 1) dzb0_cX10_digest_192 di_399 (Nat.zero_lt_succ _) rfl
theorem dX10_digest_222 : decode cX10_digest 222 = .ok (.lmul, 1) := dz1 (k := 30) (m := 1) dzb0_cX10_digest_192 di_380 (Nat.zero_lt_succ _) rfl
theorem dX10_digest_223 : decode cX10_digest 223 = .ok (.aload_n 0, 1) := dz1 (k := 31) (m := 1) dzb0_cX10_digest_192 di_0 (Nat.zero_lt_succ _) rfl
set_option maxRecDepth 100000 in
theorem dzb0_cX10_digest_224 : DzLies cX10_digest (.mk ⟨[0xb4, 0x00, 0x17, 0x1d, 0x2e, 0x85, 0x61, 0x40, 0x03, 0x36, 0x04, 0x15, 0x04, 0x2a, 0xb4, 0x00, 0x17, 0x1d, 0x2e, 0xa2, 0x00, 0x1a, 0x14, 0x01, 0x35, 0x1f, 0x69]⟩) 224 := dz_lies (m := 27) (Nat.zero_lt_succ _) rfl
theorem dX10_digest_224 : decode cX10_digest 224 = .ok (.getfield 23, 3) := dz1 (k := 0) (m := 3) dzb0_cX10_digest_224 di_222 (Nat.zero_lt_succ _) rfl
theorem dX10_digest_227 : decode cX10_digest 227 = .ok (.iload_n 3, 1) := dz1 (k := 3) (m := 1) dzb0_cX10_digest_224 di_3 (Nat.zero_lt_succ _) rfl
theorem dX10_digest_228 : decode cX10_digest 228 = .ok (.iaload, 1) := dz1 (k := 4) (m := 1) dzb0_cX10_digest_224 di_30 (Nat.zero_lt_succ _) rfl
theorem dX10_digest_229 : decode cX10_digest 229 = .ok (.i2l, 1) := dz1 (k := 5) (m := 1) dzb0_cX10_digest_224 di_250 (Nat.zero_lt_succ _) rfl
theorem dX10_digest_230 : decode cX10_digest 230 = .ok (.ladd, 1) := dz1 (k := 6) (m := 1) dzb0_cX10_digest_224 di_251 (Nat.zero_lt_succ _) rfl
theorem dX10_digest_231 : decode cX10_digest 231 = .ok (.lstore_n 1, 1) := dz1 (k := 7) (m := 1) dzb0_cX10_digest_224 di_395 (Nat.zero_lt_succ _) rfl
theorem dX10_digest_232 : decode cX10_digest 232 = .ok (.iconst 0, 1) := dz1 (k := 8) (m := 1) dzb0_cX10_digest_224 di_8 (Nat.zero_lt_succ _) rfl
theorem dX10_digest_233 : decode cX10_digest 233 = .ok (.istore 4, 2) := dz1 (k := 9) (m := 2) dzb0_cX10_digest_224 di_51 (Nat.zero_lt_succ _) rfl
theorem dX10_digest_235 : decode cX10_digest 235 = .ok (.iload 4, 2) := dz1 (k := 11) (m := 2) dzb0_cX10_digest_224 di_52 (Nat.zero_lt_succ _) rfl
theorem dX10_digest_237 : decode cX10_digest 237 = .ok (.aload_n 0, 1) := dz1 (k := 13) (m := 1) dzb0_cX10_digest_224 di_0 (Nat.zero_lt_succ _) rfl
theorem dX10_digest_238 : decode cX10_digest 238 = .ok (.getfield 23, 3) := dz1 (k := 14) (m := 3) dzb0_cX10_digest_224 di_222 (Nat.zero_lt_succ _) rfl
theorem dX10_digest_241 : decode cX10_digest 241 = .ok (.iload_n 3, 1) := dz1 (k := 17) (m := 1) dzb0_cX10_digest_224 di_3 (Nat.zero_lt_succ _) rfl
theorem dX10_digest_242 : decode cX10_digest 242 = .ok (.iaload, 1) := dz1 (k := 18) (m := 1) dzb0_cX10_digest_224 di_30 (Nat.zero_lt_succ _) rfl
theorem dX10_digest_243 : decode cX10_digest 243 = .ok (.if_icmp .ge 26, 3) := dz1 (k := 19) (m := 3) dzb0_cX10_digest_224 di_378 (Nat.zero_lt_succ _) rfl
theorem dX10_digest_246 : decode cX10_digest 246 = .ok (.ldc2_w 309, 3) := dz1 (k := 22) (m := 3) dzb0_cX10_digest_224 di_398 (Nat.zero_lt_succ _) rfl
theorem dX10_digest_249 : decode cX10_digest 249 = .ok (.lload_n 1, 1) := dz1 (k := 25) (m := 1) dzb0_cX10_digest_224 di_399 (Nat.zero_lt_succ _) rfl
theorem dX10_digest_250 : decode cX10_digest 250 = .ok (.lmul, 1) := dz1 (k := 26) (m := 1) dzb0_cX10_digest_224 di_380 (Nat.zero_lt_succ _) rfl
