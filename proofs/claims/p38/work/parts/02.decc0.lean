set_option maxRecDepth 100000 in
theorem dzc0_cX11_init_0 : DzLies cX11_init (.mk ⟨[0x2a, 0xb7, 0x00, 0x01, 0x2a, 0x10, 0x06, 0xbc, 0x0a, 0xb5, 0x00, 0x07, 0x2a, 0x11, 0x00, 0xf0, 0xbc, 0x0a, 0xb5, 0x00, 0x0d, 0x2a, 0x10, 0x28, 0xbc, 0x0a, 0xb5, 0x00, 0x10, 0x2a, 0x07, 0xbc, 0x0a]⟩) 0 := dz_lies (m := 33) (Nat.zero_lt_succ _) rfl
theorem dX11_init_0 : decode cX11_init 0 = .ok (.aload_n 0, 1) := dz1 (k := 0) (m := 1) dzc0_cX11_init_0 di_0 (Nat.zero_lt_succ _) rfl
theorem dX11_init_1 : decode cX11_init 1 = .ok (.invokespecial 1, 3) := dz1 (k := 1) (m := 3) dzc0_cX11_init_0 di_1 (Nat.zero_lt_succ _) rfl
theorem dX11_init_4 : decode cX11_init 4 = .ok (.aload_n 0, 1) := dz1 (k := 4) (m := 1) dzc0_cX11_init_0 di_0 (Nat.zero_lt_succ _) rfl
theorem dX11_init_5 : decode cX11_init 5 = .ok (.bipush 6, 2) := dz1 (k := 5) (m := 2) dzc0_cX11_init_0 di_86 (Nat.zero_lt_succ _) rfl
theorem dX11_init_7 : decode cX11_init 7 = .ok (.newarray .int, 2) := dz1 (k := 7) (m := 2) dzc0_cX11_init_0 di_17 (Nat.zero_lt_succ _) rfl
theorem dX11_init_9 : decode cX11_init 9 = .ok (.putfield 7, 3) := dz1 (k := 9) (m := 3) dzc0_cX11_init_0 di_495 (Nat.zero_lt_succ _) rfl
theorem dX11_init_12 : decode cX11_init 12 = .ok (.aload_n 0, 1) := dz1 (k := 12) (m := 1) dzc0_cX11_init_0 di_0 (Nat.zero_lt_succ _) rfl
theorem dX11_init_13 : decode cX11_init 13 = .ok (.sipush 240, 3) := dz1 (k := 13) (m := 3) dzc0_cX11_init_0 di_496 (Nat.zero_lt_succ _) rfl
theorem dX11_init_16 : decode cX11_init 16 = .ok (.newarray .int, 2) := dz1 (k := 16) (m := 2) dzc0_cX11_init_0 di_17 (Nat.zero_lt_succ _) rfl
theorem dX11_init_18 : decode cX11_init 18 = .ok (.putfield 13, 3) := dz1 (k := 18) (m := 3) dzc0_cX11_init_0 di_497 (Nat.zero_lt_succ _) rfl
theorem dX11_init_21 : decode cX11_init 21 = .ok (.aload_n 0, 1) := dz1 (k := 21) (m := 1) dzc0_cX11_init_0 di_0 (Nat.zero_lt_succ _) rfl
theorem dX11_init_22 : decode cX11_init 22 = .ok (.bipush 40, 2) := dz1 (k := 22) (m := 2) dzc0_cX11_init_0 di_16 (Nat.zero_lt_succ _) rfl
theorem dX11_init_24 : decode cX11_init 24 = .ok (.newarray .int, 2) := dz1 (k := 24) (m := 2) dzc0_cX11_init_0 di_17 (Nat.zero_lt_succ _) rfl
theorem dX11_init_26 : decode cX11_init 26 = .ok (.putfield 16, 3) := dz1 (k := 26) (m := 3) dzc0_cX11_init_0 di_498 (Nat.zero_lt_succ _) rfl
theorem dX11_init_29 : decode cX11_init 29 = .ok (.aload_n 0, 1) := dz1 (k := 29) (m := 1) dzc0_cX11_init_0 di_0 (Nat.zero_lt_succ _) rfl
theorem dX11_init_30 : decode cX11_init 30 = .ok (.iconst 4, 1) := dz1 (k := 30) (m := 1) dzc0_cX11_init_0 di_33 (Nat.zero_lt_succ _) rfl
theorem dX11_init_31 : decode cX11_init 31 = .ok (.newarray .int, 2) := dz1 (k := 31) (m := 2) dzc0_cX11_init_0 di_17 (Nat.zero_lt_succ _) rfl
set_option maxRecDepth 100000 in
theorem dzc0_cX11_init_32 : DzLies cX11_init (.mk ⟨[0x0a, 0xb5, 0x00, 0x13, 0x2a, 0x11, 0x00, 0xf0, 0xbc, 0x08, 0xb5, 0x00, 0x16, 0x2a, 0x07, 0xbc, 0x0a, 0xb5, 0x00, 0x1a, 0x2a, 0x10, 0x18, 0xbc, 0x0a, 0xb5, 0x00, 0x1d, 0x2a, 0x07, 0xbc, 0x0a]⟩) 32 := dz_lies (m := 32) (Nat.zero_lt_succ _) rfl
theorem dX11_init_33 : decode cX11_init 33 = .ok (.putfield 19, 3) := dz1 (k := 1) (m := 3) dzc0_cX11_init_32 di_499 (Nat.zero_lt_succ _) rfl
theorem dX11_init_36 : decode cX11_init 36 = .ok (.aload_n 0, 1) := dz1 (k := 4) (m := 1) dzc0_cX11_init_32 di_0 (Nat.zero_lt_succ _) rfl
theorem dX11_init_37 : decode cX11_init 37 = .ok (.sipush 240, 3) := dz1 (k := 5) (m := 3) dzc0_cX11_init_32 di_496 (Nat.zero_lt_succ _) rfl
theorem dX11_init_40 : decode cX11_init 40 = .ok (.newarray .byte, 2) := dz1 (k := 8) (m := 2) dzc0_cX11_init_32 di_500 (Nat.zero_lt_succ _) rfl
theorem dX11_init_42 : decode cX11_init 42 = .ok (.putfield 22, 3) := dz1 (k := 10) (m := 3) dzc0_cX11_init_32 di_501 (Nat.zero_lt_succ _) rfl
theorem dX11_init_45 : decode cX11_init 45 = .ok (.aload_n 0, 1) := dz1 (k := 13) (m := 1) dzc0_cX11_init_32 di_0 (Nat.zero_lt_succ _) rfl
theorem dX11_init_46 : decode cX11_init 46 = .ok (.iconst 4, 1) := dz1 (k := 14) (m := 1) dzc0_cX11_init_32 di_33 (Nat.zero_lt_succ _) rfl
theorem dX11_init_47 : decode cX11_init 47 = .ok (.newarray .int, 2) := dz1 (k := 15) (m := 2) dzc0_cX11_init_32 di_17 (Nat.zero_lt_succ _) rfl
theorem dX11_init_49 : decode cX11_init 49 = .ok (.putfield 26, 3) := dz1 (k := 17) (m := 3) dzc0_cX11_init_32 di_502 (Nat.zero_lt_succ _) rfl
theorem dX11_init_52 : decode cX11_init 52 = .ok (.aload_n 0, 1) := dz1 (k := 20) (m := 1) dzc0_cX11_init_32 di_0 (Nat.zero_lt_succ _) rfl
theorem dX11_init_53 : decode cX11_init 53 = .ok (.bipush 24, 2) := dz1 (k := 21) (m := 2) dzc0_cX11_init_32 di_503 (Nat.zero_lt_succ _) rfl
theorem dX11_init_55 : decode cX11_init 55 = .ok (.newarray .int, 2) := dz1 (k := 23) (m := 2) dzc0_cX11_init_32 di_17 (Nat.zero_lt_succ _) rfl
theorem dX11_init_57 : decode cX11_init 57 = .ok (.putfield 29, 3) := dz1 (k := 25) (m := 3) dzc0_cX11_init_32 di_200 (Nat.zero_lt_succ _) rfl
theorem dX11_init_60 : decode cX11_init 60 = .ok (.aload_n 0, 1) := dz1 (k := 28) (m := 1) dzc0_cX11_init_32 di_0 (Nat.zero_lt_succ _) rfl
theorem dX11_init_61 : decode cX11_init 61 = .ok (.iconst 4, 1) := dz1 (k := 29) (m := 1) dzc0_cX11_init_32 di_33 (Nat.zero_lt_succ _) rfl
theorem dX11_init_62 : decode cX11_init 62 = .ok (.newarray .int, 2) := dz1 (k := 30) (m := 2) dzc0_cX11_init_32 di_17 (Nat.zero_lt_succ _) rfl
set_option maxRecDepth 100000 in
theorem dzc0_cX11_init_64 : DzLies cX11_init (.mk ⟨[0xb5, 0x00, 0x20, 0x2a, 0x10, 0x18, 0xbc, 0x0a, 0xb5, 0x00, 0x23, 0x2a, 0x11, 0x05, 0x50, 0xbc, 0x0a, 0xb5, 0x00, 0x26, 0x2a, 0x06, 0xbc, 0x0a, 0xb5, 0x00, 0x29, 0x2a, 0x0a, 0xb5, 0x00, 0x2c]⟩) 64 := dz_lies (m := 32) (Nat.zero_lt_succ _) rfl
theorem dX11_init_64 : decode cX11_init 64 = .ok (.putfield 32, 3) := dz1 (k := 0) (m := 3) dzc0_cX11_init_64 di_504 (Nat.zero_lt_succ _) rfl
theorem dX11_init_67 : decode cX11_init 67 = .ok (.aload_n 0, 1) := dz1 (k := 3) (m := 1) dzc0_cX11_init_64 di_0 (Nat.zero_lt_succ _) rfl
theorem dX11_init_68 : decode cX11_init 68 = .ok (.bipush 24, 2) := dz1 (k := 4) (m := 2) dzc0_cX11_init_64 di_503 (Nat.zero_lt_succ _) rfl
theorem dX11_init_70 : decode cX11_init 70 = .ok (.newarray .int, 2) := dz1 (k := 6) (m := 2) dzc0_cX11_init_64 di_17 (Nat.zero_lt_succ _) rfl
theorem dX11_init_72 : decode cX11_init 72 = .ok (.putfield 35, 3) := dz1 (k := 8) (m := 3) dzc0_cX11_init_64 di_505 (Nat.zero_lt_succ _) rfl
theorem dX11_init_75 : decode cX11_init 75 = .ok (.aload_n 0, 1) := dz1 (k := 11) (m := 1) dzc0_cX11_init_64 di_0 (Nat.zero_lt_succ _) rfl
theorem dX11_init_76 : decode cX11_init 76 = .ok (.sipush 1360, 3) := dz1 (k := 12) (m := 3) dzc0_cX11_init_64 di_506 (Nat.zero_lt_succ _) rfl
theorem dX11_init_79 : decode cX11_init 79 = .ok (.newarray .int, 2) := dz1 (k := 15) (m := 2) dzc0_cX11_init_64 di_17 (Nat.zero_lt_succ _) rfl
theorem dX11_init_81 : decode cX11_init 81 = .ok (.putfield 38, 3) := dz1 (k := 17) (m := 3) dzc0_cX11_init_64 di_507 (Nat.zero_lt_succ _) rfl
theorem dX11_init_84 : decode cX11_init 84 = .ok (.aload_n 0, 1) := dz1 (k := 20) (m := 1) dzc0_cX11_init_64 di_0 (Nat.zero_lt_succ _) rfl
theorem dX11_init_85 : decode cX11_init 85 = .ok (.iconst 3, 1) := dz1 (k := 21) (m := 1) dzc0_cX11_init_64 di_4 (Nat.zero_lt_succ _) rfl
theorem dX11_init_86 : decode cX11_init 86 = .ok (.newarray .int, 2) := dz1 (k := 22) (m := 2) dzc0_cX11_init_64 di_17 (Nat.zero_lt_succ _) rfl
theorem dX11_init_88 : decode cX11_init 88 = .ok (.putfield 41, 3) := dz1 (k := 24) (m := 3) dzc0_cX11_init_64 di_508 (Nat.zero_lt_succ _) rfl
theorem dX11_init_91 : decode cX11_init 91 = .ok (.aload_n 0, 1) := dz1 (k := 27) (m := 1) dzc0_cX11_init_64 di_0 (Nat.zero_lt_succ _) rfl
theorem dX11_init_92 : decode cX11_init 92 = .ok (.lconst 1, 1) := dz1 (k := 28) (m := 1) dzc0_cX11_init_64 di_217 (Nat.zero_lt_succ _) rfl
theorem dX11_init_93 : decode cX11_init 93 = .ok (.putfield 44, 3) := dz1 (k := 29) (m := 3) dzc0_cX11_init_64 di_509 (Nat.zero_lt_succ _) rfl
set_option maxRecDepth 100000 in
theorem dzc0_cX11_init_96 : DzLies cX11_init (.mk ⟨[0x2a, 0x10, 0x06, 0xbc, 0x0a, 0xb5, 0x00, 0x30, 0x2a, 0x08, 0xbc, 0x0a, 0xb5, 0x00, 0x33, 0x2a, 0x08, 0xbc, 0x0a, 0xb5, 0x00, 0x36, 0x2a, 0x08, 0xbc, 0x0a, 0xb5, 0x00, 0x39, 0x03, 0x3c, 0x1b]⟩) 96 := dz_lies (m := 32) (Nat.zero_lt_succ _) rfl
theorem dX11_init_96 : decode cX11_init 96 = .ok (.aload_n 0, 1) := dz1 (k := 0) (m := 1) dzc0_cX11_init_96 di_0 (Nat.zero_lt_succ _) rfl
theorem dX11_init_97 : decode cX11_init 97 = .ok (.bipush 6, 2) := dz1 (k := 1) (m := 2) dzc0_cX11_init_96 di_86 (Nat.zero_lt_succ _) rfl
theorem dX11_init_99 : decode cX11_init 99 = .ok (.newarray .int, 2) := dz1 (k := 3) (m := 2) dzc0_cX11_init_96 di_17 (Nat.zero_lt_succ _) rfl
theorem dX11_init_101 : decode cX11_init 101 = .ok (.putfield 48, 3) := dz1 (k := 5) (m := 3) dzc0_cX11_init_96 di_510 (Nat.zero_lt_succ _) rfl
theorem dX11_init_104 : decode cX11_init 104 = .ok (.aload_n 0, 1) := dz1 (k := 8) (m := 1) dzc0_cX11_init_96 di_0 (Nat.zero_lt_succ _) rfl
theorem dX11_init_105 : decode cX11_init 105 = .ok (.iconst 5, 1) := dz1 (k := 9) (m := 1) dzc0_cX11_init_96 di_145 (Nat.zero_lt_succ _) rfl
theorem dX11_init_106 : decode cX11_init 106 = .ok (.newarray .int, 2) := dz1 (k := 10) (m := 2) dzc0_cX11_init_96 di_17 (Nat.zero_lt_succ _) rfl
theorem dX11_init_108 : decode cX11_init 108 = .ok (.putfield 51, 3) := dz1 (k := 12) (m := 3) dzc0_cX11_init_96 di_154 (Nat.zero_lt_succ _) rfl
theorem dX11_init_111 : decode cX11_init 111 = .ok (.aload_n 0, 1) := dz1 (k := 15) (m := 1) dzc0_cX11_init_96 di_0 (Nat.zero_lt_succ _) rfl
theorem dX11_init_112 : decode cX11_init 112 = .ok (.iconst 5, 1) := dz1 (k := 16) (m := 1) dzc0_cX11_init_96 di_145 (Nat.zero_lt_succ _) rfl
theorem dX11_init_113 : decode cX11_init 113 = .ok (.newarray .int, 2) := dz1 (k := 17) (m := 2) dzc0_cX11_init_96 di_17 (Nat.zero_lt_succ _) rfl
theorem dX11_init_115 : decode cX11_init 115 = .ok (.putfield 54, 3) := dz1 (k := 19) (m := 3) dzc0_cX11_init_96 di_511 (Nat.zero_lt_succ _) rfl
theorem dX11_init_118 : decode cX11_init 118 = .ok (.aload_n 0, 1) := dz1 (k := 22) (m := 1) dzc0_cX11_init_96 di_0 (Nat.zero_lt_succ _) rfl
theorem dX11_init_119 : decode cX11_init 119 = .ok (.iconst 5, 1) := dz1 (k := 23) (m := 1) dzc0_cX11_init_96 di_145 (Nat.zero_lt_succ _) rfl
theorem dX11_init_120 : decode cX11_init 120 = .ok (.newarray .int, 2) := dz1 (k := 24) (m := 2) dzc0_cX11_init_96 di_17 (Nat.zero_lt_succ _) rfl
theorem dX11_init_122 : decode cX11_init 122 = .ok (.putfield 57, 3) := dz1 (k := 26) (m := 3) dzc0_cX11_init_96 di_512 (Nat.zero_lt_succ _) rfl
theorem dX11_init_125 : decode cX11_init 125 = .ok (.iconst 0, 1) := dz1 (k := 29) (m := 1) dzc0_cX11_init_96 di_8 (Nat.zero_lt_succ _) rfl
theorem dX11_init_126 : decode cX11_init 126 = .ok (.istore_n 1, 1) := dz1 (k := 30) (m := 1) dzc0_cX11_init_96 di_68 (Nat.zero_lt_succ _) rfl
theorem dX11_init_127 : decode cX11_init 127 = .ok (.iload_n 1, 1) := dz1 (k := 31) (m := 1) dzc0_cX11_init_96 di_11 (Nat.zero_lt_succ _) rfl
set_option maxRecDepth 100000 in
theorem dzc0_cX11_init_128 : DzLies cX11_init (.mk ⟨[0x10, 0x06, 0xa2, 0x00, 0x10, 0x2a, 0xb4, 0x00, 0x07, 0x1b, 0x02, 0x4f, 0x84, 0x01, 0x01, 0xa7, 0xff, 0xf0, 0x03, 0x3c, 0x1b, 0x07, 0xa2, 0x00, 0x10, 0x2a, 0xb4, 0x00, 0x13, 0x1b, 0x02, 0x4f]⟩) 128 := dz_lies (m := 32) (Nat.zero_lt_succ _) rfl
theorem dX11_init_128 : decode cX11_init 128 = .ok (.bipush 6, 2) := dz1 (k := 0) (m := 2) dzc0_cX11_init_128 di_86 (Nat.zero_lt_succ _) rfl
theorem dX11_init_130 : decode cX11_init 130 = .ok (.if_icmp .ge 16, 3) := dz1 (k := 2) (m := 3) dzc0_cX11_init_128 di_513 (Nat.zero_lt_succ _) rfl
theorem dX11_init_133 : decode cX11_init 133 = .ok (.aload_n 0, 1) := dz1 (k := 5) (m := 1) dzc0_cX11_init_128 di_0 (Nat.zero_lt_succ _) rfl
theorem dX11_init_134 : decode cX11_init 134 = .ok (.getfield 7, 3) := dz1 (k := 6) (m := 3) dzc0_cX11_init_128 di_514 (Nat.zero_lt_succ _) rfl
theorem dX11_init_137 : decode cX11_init 137 = .ok (.iload_n 1, 1) := dz1 (k := 9) (m := 1) dzc0_cX11_init_128 di_11 (Nat.zero_lt_succ _) rfl
theorem dX11_init_138 : decode cX11_init 138 = .ok (.iconst (-1), 1) := dz1 (k := 10) (m := 1) dzc0_cX11_init_128 di_65 (Nat.zero_lt_succ _) rfl
theorem dX11_init_139 : decode cX11_init 139 = .ok (.iastore, 1) := dz1 (k := 11) (m := 1) dzc0_cX11_init_128 di_22 (Nat.zero_lt_succ _) rfl
theorem dX11_init_140 : decode cX11_init 140 = .ok (.iinc 1 1, 3) := dz1 (k := 12) (m := 3) dzc0_cX11_init_128 di_111 (Nat.zero_lt_succ _) rfl
theorem dX11_init_143 : decode cX11_init 143 = .ok (.goto (-16), 3) := dz1 (k := 15) (m := 3) dzc0_cX11_init_128 di_95 (Nat.zero_lt_succ _) rfl
theorem dX11_init_146 : decode cX11_init 146 = .ok (.iconst 0, 1) := dz1 (k := 18) (m := 1) dzc0_cX11_init_128 di_8 (Nat.zero_lt_succ _) rfl
theorem dX11_init_147 : decode cX11_init 147 = .ok (.istore_n 1, 1) := dz1 (k := 19) (m := 1) dzc0_cX11_init_128 di_68 (Nat.zero_lt_succ _) rfl
theorem dX11_init_148 : decode cX11_init 148 = .ok (.iload_n 1, 1) := dz1 (k := 20) (m := 1) dzc0_cX11_init_128 di_11 (Nat.zero_lt_succ _) rfl
theorem dX11_init_149 : decode cX11_init 149 = .ok (.iconst 4, 1) := dz1 (k := 21) (m := 1) dzc0_cX11_init_128 di_33 (Nat.zero_lt_succ _) rfl
theorem dX11_init_150 : decode cX11_init 150 = .ok (.if_icmp .ge 16, 3) := dz1 (k := 22) (m := 3) dzc0_cX11_init_128 di_513 (Nat.zero_lt_succ _) rfl
theorem dX11_init_153 : decode cX11_init 153 = .ok (.aload_n 0, 1) := dz1 (k := 25) (m := 1) dzc0_cX11_init_128 di_0 (Nat.zero_lt_succ _) rfl
theorem dX11_init_154 : decode cX11_init 154 = .ok (.getfield 19, 3) := dz1 (k := 26) (m := 3) dzc0_cX11_init_128 di_515 (Nat.zero_lt_succ _) rfl
theorem dX11_init_157 : decode cX11_init 157 = .ok (.iload_n 1, 1) := dz1 (k := 29) (m := 1) dzc0_cX11_init_128 di_11 (Nat.zero_lt_succ _) rfl
theorem dX11_init_158 : decode cX11_init 158 = .ok (.iconst (-1), 1) := dz1 (k := 30) (m := 1) dzc0_cX11_init_128 di_65 (Nat.zero_lt_succ _) rfl
theorem dX11_init_159 : decode cX11_init 159 = .ok (.iastore, 1) := dz1 (k := 31) (m := 1) dzc0_cX11_init_128 di_22 (Nat.zero_lt_succ _) rfl
set_option maxRecDepth 100000 in
theorem dzc0_cX11_init_160 : DzLies cX11_init (.mk ⟨[0x84, 0x01, 0x01, 0xa7, 0xff, 0xf1, 0x03, 0x3c, 0x1b, 0x06, 0xa2, 0x00, 0x10, 0x2a, 0xb4, 0x00, 0x29, 0x1b, 0x02, 0x4f, 0x84, 0x01, 0x01, 0xa7, 0xff, 0xf1, 0xb1]⟩) 160 := dz_lies (m := 27) (Nat.zero_lt_succ _) rfl
theorem dX11_init_160 : decode cX11_init 160 = .ok (.iinc 1 1, 3) := dz1 (k := 0) (m := 3) dzc0_cX11_init_160 di_111 (Nat.zero_lt_succ _) rfl
theorem dX11_init_163 : decode cX11_init 163 = .ok (.goto (-15), 3) := dz1 (k := 3) (m := 3) dzc0_cX11_init_160 di_516 (Nat.zero_lt_succ _) rfl
theorem dX11_init_166 : decode cX11_init 166 = .ok (.iconst 0, 1) := dz1 (k := 6) (m := 1) dzc0_cX11_init_160 di_8 (Nat.zero_lt_succ _) rfl
theorem dX11_init_167 : decode cX11_init 167 = .ok (.istore_n 1, 1) := dz1 (k := 7) (m := 1) dzc0_cX11_init_160 di_68 (Nat.zero_lt_succ _) rfl
theorem dX11_init_168 : decode cX11_init 168 = .ok (.iload_n 1, 1) := dz1 (k := 8) (m := 1) dzc0_cX11_init_160 di_11 (Nat.zero_lt_succ _) rfl
theorem dX11_init_169 : decode cX11_init 169 = .ok (.iconst 3, 1) := dz1 (k := 9) (m := 1) dzc0_cX11_init_160 di_4 (Nat.zero_lt_succ _) rfl
theorem dX11_init_170 : decode cX11_init 170 = .ok (.if_icmp .ge 16, 3) := dz1 (k := 10) (m := 3) dzc0_cX11_init_160 di_513 (Nat.zero_lt_succ _) rfl
theorem dX11_init_173 : decode cX11_init 173 = .ok (.aload_n 0, 1) := dz1 (k := 13) (m := 1) dzc0_cX11_init_160 di_0 (Nat.zero_lt_succ _) rfl
theorem dX11_init_174 : decode cX11_init 174 = .ok (.getfield 41, 3) := dz1 (k := 14) (m := 3) dzc0_cX11_init_160 di_517 (Nat.zero_lt_succ _) rfl
theorem dX11_init_177 : decode cX11_init 177 = .ok (.iload_n 1, 1) := dz1 (k := 17) (m := 1) dzc0_cX11_init_160 di_11 (Nat.zero_lt_succ _) rfl
theorem dX11_init_178 : decode cX11_init 178 = .ok (.iconst (-1), 1) := dz1 (k := 18) (m := 1) dzc0_cX11_init_160 di_65 (Nat.zero_lt_succ _) rfl
theorem dX11_init_179 : decode cX11_init 179 = .ok (.iastore, 1) := dz1 (k := 19) (m := 1) dzc0_cX11_init_160 di_22 (Nat.zero_lt_succ _) rfl
theorem dX11_init_180 : decode cX11_init 180 = .ok (.iinc 1 1, 3) := dz1 (k := 20) (m := 3) dzc0_cX11_init_160 di_111 (Nat.zero_lt_succ _) rfl
theorem dX11_init_183 : decode cX11_init 183 = .ok (.goto (-15), 3) := dz1 (k := 23) (m := 3) dzc0_cX11_init_160 di_516 (Nat.zero_lt_succ _) rfl
theorem dX11_init_186 : decode cX11_init 186 = .ok (.return_, 1) := dz1 (k := 26) (m := 1) dzc0_cX11_init_160 di_2 (Nat.zero_lt_succ _) rfl
set_option maxRecDepth 100000 in
theorem dzc0_cX11_in_0 : DzLies cX11_in (.mk ⟨[0x1e, 0x20, 0x94, 0x9b, 0x00, 0x0e, 0x1e, 0x16, 0x04, 0x94, 0x9d, 0x00, 0x07, 0x04, 0xa7, 0x00, 0x04, 0x03, 0xac]⟩) 0 := dz_lies (m := 19) (Nat.zero_lt_succ _) rfl
theorem dX11_in_0 : decode cX11_in 0 = .ok (.lload_n 0, 1) := dz1 (k := 0) (m := 1) dzc0_cX11_in_0 di_488 (Nat.zero_lt_succ _) rfl
theorem dX11_in_1 : decode cX11_in 1 = .ok (.lload_n 2, 1) := dz1 (k := 1) (m := 1) dzc0_cX11_in_0 di_474 (Nat.zero_lt_succ _) rfl
theorem dX11_in_2 : decode cX11_in 2 = .ok (.lcmp, 1) := dz1 (k := 2) (m := 1) dzc0_cX11_in_0 di_376 (Nat.zero_lt_succ _) rfl
theorem dX11_in_3 : decode cX11_in 3 = .ok (.ifCond .lt 14, 3) := dz1 (k := 3) (m := 3) dzc0_cX11_in_0 di_314 (Nat.zero_lt_succ _) rfl
theorem dX11_in_6 : decode cX11_in 6 = .ok (.lload_n 0, 1) := dz1 (k := 6) (m := 1) dzc0_cX11_in_0 di_488 (Nat.zero_lt_succ _) rfl
theorem dX11_in_7 : decode cX11_in 7 = .ok (.lload 4, 2) := dz1 (k := 7) (m := 2) dzc0_cX11_in_0 di_249 (Nat.zero_lt_succ _) rfl
theorem dX11_in_9 : decode cX11_in 9 = .ok (.lcmp, 1) := dz1 (k := 9) (m := 1) dzc0_cX11_in_0 di_376 (Nat.zero_lt_succ _) rfl
theorem dX11_in_10 : decode cX11_in 10 = .ok (.ifCond .gt 7, 3) := dz1 (k := 10) (m := 3) dzc0_cX11_in_0 di_417 (Nat.zero_lt_succ _) rfl
theorem dX11_in_13 : decode cX11_in 13 = .ok (.iconst 1, 1) := dz1 (k := 13) (m := 1) dzc0_cX11_in_0 di_10 (Nat.zero_lt_succ _) rfl
theorem dX11_in_14 : decode cX11_in 14 = .ok (.goto 4, 3) := dz1 (k := 14) (m := 3) dzc0_cX11_in_0 di_49 (Nat.zero_lt_succ _) rfl
theorem dX11_in_17 : decode cX11_in 17 = .ok (.iconst 0, 1) := dz1 (k := 17) (m := 1) dzc0_cX11_in_0 di_8 (Nat.zero_lt_succ _) rfl
theorem dX11_in_18 : decode cX11_in 18 = .ok (.ireturn, 1) := dz1 (k := 18) (m := 1) dzc0_cX11_in_0 di_13 (Nat.zero_lt_succ _) rfl
set_option maxRecDepth 100000 in
theorem dzc0_cX11_has_0 : DzLies cX11_has (.mk ⟨[0x1a, 0x1b, 0x7a, 0x04, 0x7e, 0x04, 0xa0, 0x00, 0x07, 0x04, 0xa7, 0x00, 0x04, 0x03, 0xac]⟩) 0 := dz_lies (m := 15) (Nat.zero_lt_succ _) rfl
theorem dX11_has_0 : decode cX11_has 0 = .ok (.iload_n 0, 1) := dz1 (k := 0) (m := 1) dzc0_cX11_has_0 di_109 (Nat.zero_lt_succ _) rfl
theorem dX11_has_1 : decode cX11_has 1 = .ok (.iload_n 1, 1) := dz1 (k := 1) (m := 1) dzc0_cX11_has_0 di_11 (Nat.zero_lt_succ _) rfl
theorem dX11_has_2 : decode cX11_has 2 = .ok (.ishr, 1) := dz1 (k := 2) (m := 1) dzc0_cX11_has_0 di_47 (Nat.zero_lt_succ _) rfl
theorem dX11_has_3 : decode cX11_has 3 = .ok (.iconst 1, 1) := dz1 (k := 3) (m := 1) dzc0_cX11_has_0 di_10 (Nat.zero_lt_succ _) rfl
theorem dX11_has_4 : decode cX11_has 4 = .ok (.iand, 1) := dz1 (k := 4) (m := 1) dzc0_cX11_has_0 di_48 (Nat.zero_lt_succ _) rfl
theorem dX11_has_5 : decode cX11_has 5 = .ok (.iconst 1, 1) := dz1 (k := 5) (m := 1) dzc0_cX11_has_0 di_10 (Nat.zero_lt_succ _) rfl
theorem dX11_has_6 : decode cX11_has 6 = .ok (.if_icmp .ne 7, 3) := dz1 (k := 6) (m := 3) dzc0_cX11_has_0 di_7 (Nat.zero_lt_succ _) rfl
theorem dX11_has_9 : decode cX11_has 9 = .ok (.iconst 1, 1) := dz1 (k := 9) (m := 1) dzc0_cX11_has_0 di_10 (Nat.zero_lt_succ _) rfl
theorem dX11_has_10 : decode cX11_has 10 = .ok (.goto 4, 3) := dz1 (k := 10) (m := 3) dzc0_cX11_has_0 di_49 (Nat.zero_lt_succ _) rfl
theorem dX11_has_13 : decode cX11_has 13 = .ok (.iconst 0, 1) := dz1 (k := 13) (m := 1) dzc0_cX11_has_0 di_8 (Nat.zero_lt_succ _) rfl
theorem dX11_has_14 : decode cX11_has 14 = .ok (.ireturn, 1) := dz1 (k := 14) (m := 1) dzc0_cX11_has_0 di_13 (Nat.zero_lt_succ _) rfl
set_option maxRecDepth 100000 in
theorem dzc0_cX11_bits_0 : DzLies cX11_bits (.mk ⟨[0x03, 0x3c, 0x03, 0x3d, 0x1c, 0x10, 0x0e, 0xa2, 0x00, 0x11, 0x1b, 0x1a, 0x1c, 0x7a, 0x04, 0x7e, 0x60, 0x3c, 0x84, 0x02, 0x01, 0xa7, 0xff, 0xef, 0x1b, 0xac]⟩) 0 := dz_lies (m := 26) (Nat.zero_lt_succ _) rfl
theorem dX11_bits_0 : decode cX11_bits 0 = .ok (.iconst 0, 1) := dz1 (k := 0) (m := 1) dzc0_cX11_bits_0 di_8 (Nat.zero_lt_succ _) rfl
theorem dX11_bits_1 : decode cX11_bits 1 = .ok (.istore_n 1, 1) := dz1 (k := 1) (m := 1) dzc0_cX11_bits_0 di_68 (Nat.zero_lt_succ _) rfl
theorem dX11_bits_2 : decode cX11_bits 2 = .ok (.iconst 0, 1) := dz1 (k := 2) (m := 1) dzc0_cX11_bits_0 di_8 (Nat.zero_lt_succ _) rfl
theorem dX11_bits_3 : decode cX11_bits 3 = .ok (.istore_n 2, 1) := dz1 (k := 3) (m := 1) dzc0_cX11_bits_0 di_27 (Nat.zero_lt_succ _) rfl
theorem dX11_bits_4 : decode cX11_bits 4 = .ok (.iload_n 2, 1) := dz1 (k := 4) (m := 1) dzc0_cX11_bits_0 di_28 (Nat.zero_lt_succ _) rfl
theorem dX11_bits_5 : decode cX11_bits 5 = .ok (.bipush 14, 2) := dz1 (k := 5) (m := 2) dzc0_cX11_bits_0 di_518 (Nat.zero_lt_succ _) rfl
theorem dX11_bits_7 : decode cX11_bits 7 = .ok (.if_icmp .ge 17, 3) := dz1 (k := 7) (m := 3) dzc0_cX11_bits_0 di_431 (Nat.zero_lt_succ _) rfl
theorem dX11_bits_10 : decode cX11_bits 10 = .ok (.iload_n 1, 1) := dz1 (k := 10) (m := 1) dzc0_cX11_bits_0 di_11 (Nat.zero_lt_succ _) rfl
theorem dX11_bits_11 : decode cX11_bits 11 = .ok (.iload_n 0, 1) := dz1 (k := 11) (m := 1) dzc0_cX11_bits_0 di_109 (Nat.zero_lt_succ _) rfl
theorem dX11_bits_12 : decode cX11_bits 12 = .ok (.iload_n 2, 1) := dz1 (k := 12) (m := 1) dzc0_cX11_bits_0 di_28 (Nat.zero_lt_succ _) rfl
theorem dX11_bits_13 : decode cX11_bits 13 = .ok (.ishr, 1) := dz1 (k := 13) (m := 1) dzc0_cX11_bits_0 di_47 (Nat.zero_lt_succ _) rfl
theorem dX11_bits_14 : decode cX11_bits 14 = .ok (.iconst 1, 1) := dz1 (k := 14) (m := 1) dzc0_cX11_bits_0 di_10 (Nat.zero_lt_succ _) rfl
theorem dX11_bits_15 : decode cX11_bits 15 = .ok (.iand, 1) := dz1 (k := 15) (m := 1) dzc0_cX11_bits_0 di_48 (Nat.zero_lt_succ _) rfl
theorem dX11_bits_16 : decode cX11_bits 16 = .ok (.iadd, 1) := dz1 (k := 16) (m := 1) dzc0_cX11_bits_0 di_24 (Nat.zero_lt_succ _) rfl
theorem dX11_bits_17 : decode cX11_bits 17 = .ok (.istore_n 1, 1) := dz1 (k := 17) (m := 1) dzc0_cX11_bits_0 di_68 (Nat.zero_lt_succ _) rfl
theorem dX11_bits_18 : decode cX11_bits 18 = .ok (.iinc 2 1, 3) := dz1 (k := 18) (m := 3) dzc0_cX11_bits_0 di_31 (Nat.zero_lt_succ _) rfl
theorem dX11_bits_21 : decode cX11_bits 21 = .ok (.goto (-17), 3) := dz1 (k := 21) (m := 3) dzc0_cX11_bits_0 di_519 (Nat.zero_lt_succ _) rfl
theorem dX11_bits_24 : decode cX11_bits 24 = .ok (.iload_n 1, 1) := dz1 (k := 24) (m := 1) dzc0_cX11_bits_0 di_11 (Nat.zero_lt_succ _) rfl
theorem dX11_bits_25 : decode cX11_bits 25 = .ok (.ireturn, 1) := dz1 (k := 25) (m := 1) dzc0_cX11_bits_0 di_13 (Nat.zero_lt_succ _) rfl
set_option maxRecDepth 100000 in
theorem dzc0_cX11_lesser_0 : DzLies cX11_lesser (.mk ⟨[0x1a, 0x1b, 0xa2, 0x00, 0x07, 0x1a, 0xa7, 0x00, 0x04, 0x1b, 0xac]⟩) 0 := dz_lies (m := 11) (Nat.zero_lt_succ _) rfl
theorem dX11_lesser_0 : decode cX11_lesser 0 = .ok (.iload_n 0, 1) := dz1 (k := 0) (m := 1) dzc0_cX11_lesser_0 di_109 (Nat.zero_lt_succ _) rfl
theorem dX11_lesser_1 : decode cX11_lesser 1 = .ok (.iload_n 1, 1) := dz1 (k := 1) (m := 1) dzc0_cX11_lesser_0 di_11 (Nat.zero_lt_succ _) rfl
theorem dX11_lesser_2 : decode cX11_lesser 2 = .ok (.if_icmp .ge 7, 3) := dz1 (k := 2) (m := 3) dzc0_cX11_lesser_0 di_411 (Nat.zero_lt_succ _) rfl
theorem dX11_lesser_5 : decode cX11_lesser 5 = .ok (.iload_n 0, 1) := dz1 (k := 5) (m := 1) dzc0_cX11_lesser_0 di_109 (Nat.zero_lt_succ _) rfl
theorem dX11_lesser_6 : decode cX11_lesser 6 = .ok (.goto 4, 3) := dz1 (k := 6) (m := 3) dzc0_cX11_lesser_0 di_49 (Nat.zero_lt_succ _) rfl
theorem dX11_lesser_9 : decode cX11_lesser 9 = .ok (.iload_n 1, 1) := dz1 (k := 9) (m := 1) dzc0_cX11_lesser_0 di_11 (Nat.zero_lt_succ _) rfl
theorem dX11_lesser_10 : decode cX11_lesser 10 = .ok (.ireturn, 1) := dz1 (k := 10) (m := 1) dzc0_cX11_lesser_0 di_13 (Nat.zero_lt_succ _) rfl
set_option maxRecDepth 100000 in
theorem dzc0_cX11_larger_0 : DzLies cX11_larger (.mk ⟨[0x1a, 0x1b, 0xa2, 0x00, 0x07, 0x1b, 0xa7, 0x00, 0x04, 0x1a, 0xac]⟩) 0 := dz_lies (m := 11) (Nat.zero_lt_succ _) rfl
theorem dX11_larger_0 : decode cX11_larger 0 = .ok (.iload_n 0, 1) := dz1 (k := 0) (m := 1) dzc0_cX11_larger_0 di_109 (Nat.zero_lt_succ _) rfl
theorem dX11_larger_1 : decode cX11_larger 1 = .ok (.iload_n 1, 1) := dz1 (k := 1) (m := 1) dzc0_cX11_larger_0 di_11 (Nat.zero_lt_succ _) rfl
theorem dX11_larger_2 : decode cX11_larger 2 = .ok (.if_icmp .ge 7, 3) := dz1 (k := 2) (m := 3) dzc0_cX11_larger_0 di_411 (Nat.zero_lt_succ _) rfl
theorem dX11_larger_5 : decode cX11_larger 5 = .ok (.iload_n 1, 1) := dz1 (k := 5) (m := 1) dzc0_cX11_larger_0 di_11 (Nat.zero_lt_succ _) rfl
theorem dX11_larger_6 : decode cX11_larger 6 = .ok (.goto 4, 3) := dz1 (k := 6) (m := 3) dzc0_cX11_larger_0 di_49 (Nat.zero_lt_succ _) rfl
theorem dX11_larger_9 : decode cX11_larger 9 = .ok (.iload_n 0, 1) := dz1 (k := 9) (m := 1) dzc0_cX11_larger_0 di_109 (Nat.zero_lt_succ _) rfl
theorem dX11_larger_10 : decode cX11_larger 10 = .ok (.ireturn, 1) := dz1 (k := 10) (m := 1) dzc0_cX11_larger_0 di_13 (Nat.zero_lt_succ _) rfl
set_option maxRecDepth 100000 in
theorem dzc0_cX11_finds_0 : DzLies cX11_finds (.mk ⟨[0x2a, 0x1b, 0xb5, 0x00, 0x3c, 0x2a, 0xb4, 0x00, 0x30, 0x1b, 0x5c, 0x2e, 0x04, 0x60, 0x4f, 0x10, 0xfd, 0xac]⟩) 0 := dz_lies (m := 18) (Nat.zero_lt_succ _) rfl
theorem dX11_finds_0 : decode cX11_finds 0 = .ok (.aload_n 0, 1) := dz1 (k := 0) (m := 1) dzc0_cX11_finds_0 di_0 (Nat.zero_lt_succ _) rfl
theorem dX11_finds_1 : decode cX11_finds 1 = .ok (.iload_n 1, 1) := dz1 (k := 1) (m := 1) dzc0_cX11_finds_0 di_11 (Nat.zero_lt_succ _) rfl
theorem dX11_finds_2 : decode cX11_finds 2 = .ok (.putfield 60, 3) := dz1 (k := 2) (m := 3) dzc0_cX11_finds_0 di_214 (Nat.zero_lt_succ _) rfl
theorem dX11_finds_5 : decode cX11_finds 5 = .ok (.aload_n 0, 1) := dz1 (k := 5) (m := 1) dzc0_cX11_finds_0 di_0 (Nat.zero_lt_succ _) rfl
theorem dX11_finds_6 : decode cX11_finds 6 = .ok (.getfield 48, 3) := dz1 (k := 6) (m := 3) dzc0_cX11_finds_0 di_520 (Nat.zero_lt_succ _) rfl
theorem dX11_finds_9 : decode cX11_finds 9 = .ok (.iload_n 1, 1) := dz1 (k := 9) (m := 1) dzc0_cX11_finds_0 di_11 (Nat.zero_lt_succ _) rfl
theorem dX11_finds_10 : decode cX11_finds 10 = .ok (.dup2, 1) := dz1 (k := 10) (m := 1) dzc0_cX11_finds_0 di_67 (Nat.zero_lt_succ _) rfl
theorem dX11_finds_11 : decode cX11_finds 11 = .ok (.iaload, 1) := dz1 (k := 11) (m := 1) dzc0_cX11_finds_0 di_30 (Nat.zero_lt_succ _) rfl
theorem dX11_finds_12 : decode cX11_finds 12 = .ok (.iconst 1, 1) := dz1 (k := 12) (m := 1) dzc0_cX11_finds_0 di_10 (Nat.zero_lt_succ _) rfl
theorem dX11_finds_13 : decode cX11_finds 13 = .ok (.iadd, 1) := dz1 (k := 13) (m := 1) dzc0_cX11_finds_0 di_24 (Nat.zero_lt_succ _) rfl
theorem dX11_finds_14 : decode cX11_finds 14 = .ok (.iastore, 1) := dz1 (k := 14) (m := 1) dzc0_cX11_finds_0 di_22 (Nat.zero_lt_succ _) rfl
theorem dX11_finds_15 : decode cX11_finds 15 = .ok (.bipush (-3), 2) := dz1 (k := 15) (m := 2) dzc0_cX11_finds_0 di_410 (Nat.zero_lt_succ _) rfl
theorem dX11_finds_17 : decode cX11_finds 17 = .ok (.ireturn, 1) := dz1 (k := 17) (m := 1) dzc0_cX11_finds_0 di_13 (Nat.zero_lt_succ _) rfl
set_option maxRecDepth 100000 in
theorem dzc0_cX11_tells_0 : DzLies cX11_tells (.mk ⟨[0x2a, 0x1b, 0xb5, 0x00, 0x40, 0x04, 0xac]⟩) 0 := dz_lies (m := 7) (Nat.zero_lt_succ _) rfl
theorem dX11_tells_0 : decode cX11_tells 0 = .ok (.aload_n 0, 1) := dz1 (k := 0) (m := 1) dzc0_cX11_tells_0 di_0 (Nat.zero_lt_succ _) rfl
theorem dX11_tells_1 : decode cX11_tells 1 = .ok (.iload_n 1, 1) := dz1 (k := 1) (m := 1) dzc0_cX11_tells_0 di_11 (Nat.zero_lt_succ _) rfl
theorem dX11_tells_2 : decode cX11_tells 2 = .ok (.putfield 64, 3) := dz1 (k := 2) (m := 3) dzc0_cX11_tells_0 di_215 (Nat.zero_lt_succ _) rfl
theorem dX11_tells_5 : decode cX11_tells 5 = .ok (.iconst 1, 1) := dz1 (k := 5) (m := 1) dzc0_cX11_tells_0 di_10 (Nat.zero_lt_succ _) rfl
theorem dX11_tells_6 : decode cX11_tells 6 = .ok (.ireturn, 1) := dz1 (k := 6) (m := 1) dzc0_cX11_tells_0 di_13 (Nat.zero_lt_succ _) rfl
set_option maxRecDepth 100000 in
theorem dzc0_cX11_isRow_0 : DzLies cX11_isRow (.mk ⟨[0x1b, 0x85, 0x09, 0x14, 0x00, 0x43, 0xb8, 0x00, 0x45, 0xac]⟩) 0 := dz_lies (m := 10) (Nat.zero_lt_succ _) rfl
theorem dX11_isRow_0 : decode cX11_isRow 0 = .ok (.iload_n 1, 1) := dz1 (k := 0) (m := 1) dzc0_cX11_isRow_0 di_11 (Nat.zero_lt_succ _) rfl
theorem dX11_isRow_1 : decode cX11_isRow 1 = .ok (.i2l, 1) := dz1 (k := 1) (m := 1) dzc0_cX11_isRow_0 di_250 (Nat.zero_lt_succ _) rfl
theorem dX11_isRow_2 : decode cX11_isRow 2 = .ok (.lconst 0, 1) := dz1 (k := 2) (m := 1) dzc0_cX11_isRow_0 di_246 (Nat.zero_lt_succ _) rfl
theorem dX11_isRow_3 : decode cX11_isRow 3 = .ok (.ldc2_w 67, 3) := dz1 (k := 3) (m := 3) dzc0_cX11_isRow_0 di_521 (Nat.zero_lt_succ _) rfl
theorem dX11_isRow_6 : decode cX11_isRow 6 = .ok (.invokestatic 69, 3) := dz1 (k := 6) (m := 3) dzc0_cX11_isRow_0 di_522 (Nat.zero_lt_succ _) rfl
theorem dX11_isRow_9 : decode cX11_isRow 9 = .ok (.ireturn, 1) := dz1 (k := 9) (m := 1) dzc0_cX11_isRow_0 di_13 (Nat.zero_lt_succ _) rfl
set_option maxRecDepth 100000 in
theorem dzc0_cX11_isText_0 : DzLies cX11_isText (.mk ⟨[0x1b, 0x85, 0x09, 0x14, 0x00, 0x49, 0xb8, 0x00, 0x45, 0xac]⟩) 0 := dz_lies (m := 10) (Nat.zero_lt_succ _) rfl
theorem dX11_isText_0 : decode cX11_isText 0 = .ok (.iload_n 1, 1) := dz1 (k := 0) (m := 1) dzc0_cX11_isText_0 di_11 (Nat.zero_lt_succ _) rfl
theorem dX11_isText_1 : decode cX11_isText 1 = .ok (.i2l, 1) := dz1 (k := 1) (m := 1) dzc0_cX11_isText_0 di_250 (Nat.zero_lt_succ _) rfl
theorem dX11_isText_2 : decode cX11_isText 2 = .ok (.lconst 0, 1) := dz1 (k := 2) (m := 1) dzc0_cX11_isText_0 di_246 (Nat.zero_lt_succ _) rfl
theorem dX11_isText_3 : decode cX11_isText 3 = .ok (.ldc2_w 73, 3) := dz1 (k := 3) (m := 3) dzc0_cX11_isText_0 di_523 (Nat.zero_lt_succ _) rfl
theorem dX11_isText_6 : decode cX11_isText 6 = .ok (.invokestatic 69, 3) := dz1 (k := 6) (m := 3) dzc0_cX11_isText_0 di_522 (Nat.zero_lt_succ _) rfl
theorem dX11_isText_9 : decode cX11_isText 9 = .ok (.ireturn, 1) := dz1 (k := 9) (m := 1) dzc0_cX11_isText_0 di_13 (Nat.zero_lt_succ _) rfl
set_option maxRecDepth 100000 in
theorem dzc0_cX11_anew_0 : DzLies cX11_anew (.mk ⟨[0x2a, 0xb4, 0x00, 0x07, 0x1b, 0x1c, 0x4f, 0x03, 0x3e, 0x1d, 0x1c, 0xa2, 0x00, 0x15, 0x2a, 0xb4, 0x00, 0x0d, 0x10, 0x28, 0x1b, 0x68, 0x1d, 0x60, 0x03, 0x4f, 0x84, 0x03, 0x01, 0xa7, 0xff, 0xec]⟩) 0 := dz_lies (m := 32) (Nat.zero_lt_succ _) rfl
theorem dX11_anew_0 : decode cX11_anew 0 = .ok (.aload_n 0, 1) := dz1 (k := 0) (m := 1) dzc0_cX11_anew_0 di_0 (Nat.zero_lt_succ _) rfl
theorem dX11_anew_1 : decode cX11_anew 1 = .ok (.getfield 7, 3) := dz1 (k := 1) (m := 3) dzc0_cX11_anew_0 di_514 (Nat.zero_lt_succ _) rfl
theorem dX11_anew_4 : decode cX11_anew 4 = .ok (.iload_n 1, 1) := dz1 (k := 4) (m := 1) dzc0_cX11_anew_0 di_11 (Nat.zero_lt_succ _) rfl
theorem dX11_anew_5 : decode cX11_anew 5 = .ok (.iload_n 2, 1) := dz1 (k := 5) (m := 1) dzc0_cX11_anew_0 di_28 (Nat.zero_lt_succ _) rfl
theorem dX11_anew_6 : decode cX11_anew 6 = .ok (.iastore, 1) := dz1 (k := 6) (m := 1) dzc0_cX11_anew_0 di_22 (Nat.zero_lt_succ _) rfl
theorem dX11_anew_7 : decode cX11_anew 7 = .ok (.iconst 0, 1) := dz1 (k := 7) (m := 1) dzc0_cX11_anew_0 di_8 (Nat.zero_lt_succ _) rfl
theorem dX11_anew_8 : decode cX11_anew 8 = .ok (.istore_n 3, 1) := dz1 (k := 8) (m := 1) dzc0_cX11_anew_0 di_50 (Nat.zero_lt_succ _) rfl
theorem dX11_anew_9 : decode cX11_anew 9 = .ok (.iload_n 3, 1) := dz1 (k := 9) (m := 1) dzc0_cX11_anew_0 di_3 (Nat.zero_lt_succ _) rfl
theorem dX11_anew_10 : decode cX11_anew 10 = .ok (.iload_n 2, 1) := dz1 (k := 10) (m := 1) dzc0_cX11_anew_0 di_28 (Nat.zero_lt_succ _) rfl
theorem dX11_anew_11 : decode cX11_anew 11 = .ok (.if_icmp .ge 21, 3) := dz1 (k := 11) (m := 3) dzc0_cX11_anew_0 di_29 (Nat.zero_lt_succ _) rfl
theorem dX11_anew_14 : decode cX11_anew 14 = .ok (.aload_n 0, 1) := dz1 (k := 14) (m := 1) dzc0_cX11_anew_0 di_0 (Nat.zero_lt_succ _) rfl
theorem dX11_anew_15 : decode cX11_anew 15 = .ok (.getfield 13, 3) := dz1 (k := 15) (m := 3) dzc0_cX11_anew_0 di_524 (Nat.zero_lt_succ _) rfl
theorem dX11_anew_18 : decode cX11_anew 18 = .ok (.bipush 40, 2) := dz1 (k := 18) (m := 2) dzc0_cX11_anew_0 di_16 (Nat.zero_lt_succ _) rfl
theorem dX11_anew_20 : decode cX11_anew 20 = .ok (.iload_n 1, 1) := dz1 (k := 20) (m := 1) dzc0_cX11_anew_0 di_11 (Nat.zero_lt_succ _) rfl
theorem dX11_anew_21 : decode cX11_anew 21 = .ok (.imul, 1) := dz1 (k := 21) (m := 1) dzc0_cX11_anew_0 di_113 (Nat.zero_lt_succ _) rfl
theorem dX11_anew_22 : decode cX11_anew 22 = .ok (.iload_n 3, 1) := dz1 (k := 22) (m := 1) dzc0_cX11_anew_0 di_3 (Nat.zero_lt_succ _) rfl
theorem dX11_anew_23 : decode cX11_anew 23 = .ok (.iadd, 1) := dz1 (k := 23) (m := 1) dzc0_cX11_anew_0 di_24 (Nat.zero_lt_succ _) rfl
theorem dX11_anew_24 : decode cX11_anew 24 = .ok (.iconst 0, 1) := dz1 (k := 24) (m := 1) dzc0_cX11_anew_0 di_8 (Nat.zero_lt_succ _) rfl
theorem dX11_anew_25 : decode cX11_anew 25 = .ok (.iastore, 1) := dz1 (k := 25) (m := 1) dzc0_cX11_anew_0 di_22 (Nat.zero_lt_succ _) rfl
theorem dX11_anew_26 : decode cX11_anew 26 = .ok (.iinc 3 1, 3) := dz1 (k := 26) (m := 3) dzc0_cX11_anew_0 di_94 (Nat.zero_lt_succ _) rfl
theorem dX11_anew_29 : decode cX11_anew 29 = .ok (.goto (-20), 3) := dz1 (k := 29) (m := 3) dzc0_cX11_anew_0 di_42 (Nat.zero_lt_succ _) rfl
set_option maxRecDepth 100000 in
theorem dzc0_cX11_anew_32 : DzLies cX11_anew (.mk ⟨[0xb1]⟩) 32 := dz_lies (m := 1) (Nat.zero_lt_succ _) rfl
theorem dX11_anew_32 : decode cX11_anew 32 = .ok (.return_, 1) := dz1 (k := 0) (m := 1) dzc0_cX11_anew_32 di_2 (Nat.zero_lt_succ _) rfl
set_option maxRecDepth 100000 in
theorem dzc0_cX11_row_0 : DzLies cX11_row (.mk ⟨[0x2a, 0x1b, 0xb6, 0x00, 0x4b, 0x99, 0x00, 0x09, 0x1c, 0x10, 0x28, 0xa4, 0x00, 0x05, 0x02, 0xac, 0x1c, 0x9c, 0x00, 0x09, 0x2a, 0x08, 0xb6, 0x00, 0x4f, 0xac, 0x2a, 0x1b, 0x1c, 0xb6, 0x00, 0x53]⟩) 0 := dz_lies (m := 32) (Nat.zero_lt_succ _) rfl
theorem dX11_row_0 : decode cX11_row 0 = .ok (.aload_n 0, 1) := dz1 (k := 0) (m := 1) dzc0_cX11_row_0 di_0 (Nat.zero_lt_succ _) rfl
theorem dX11_row_1 : decode cX11_row 1 = .ok (.iload_n 1, 1) := dz1 (k := 1) (m := 1) dzc0_cX11_row_0 di_11 (Nat.zero_lt_succ _) rfl
theorem dX11_row_2 : decode cX11_row 2 = .ok (.invokevirtual 75, 3) := dz1 (k := 2) (m := 3) dzc0_cX11_row_0 di_525 (Nat.zero_lt_succ _) rfl
theorem dX11_row_5 : decode cX11_row 5 = .ok (.ifCond .eq 9, 3) := dz1 (k := 5) (m := 3) dzc0_cX11_row_0 di_229 (Nat.zero_lt_succ _) rfl
theorem dX11_row_8 : decode cX11_row 8 = .ok (.iload_n 2, 1) := dz1 (k := 8) (m := 1) dzc0_cX11_row_0 di_28 (Nat.zero_lt_succ _) rfl
theorem dX11_row_9 : decode cX11_row 9 = .ok (.bipush 40, 2) := dz1 (k := 9) (m := 2) dzc0_cX11_row_0 di_16 (Nat.zero_lt_succ _) rfl
theorem dX11_row_11 : decode cX11_row 11 = .ok (.if_icmp .le 5, 3) := dz1 (k := 11) (m := 3) dzc0_cX11_row_0 di_230 (Nat.zero_lt_succ _) rfl
theorem dX11_row_14 : decode cX11_row 14 = .ok (.iconst (-1), 1) := dz1 (k := 14) (m := 1) dzc0_cX11_row_0 di_65 (Nat.zero_lt_succ _) rfl
theorem dX11_row_15 : decode cX11_row 15 = .ok (.ireturn, 1) := dz1 (k := 15) (m := 1) dzc0_cX11_row_0 di_13 (Nat.zero_lt_succ _) rfl
theorem dX11_row_16 : decode cX11_row 16 = .ok (.iload_n 2, 1) := dz1 (k := 16) (m := 1) dzc0_cX11_row_0 di_28 (Nat.zero_lt_succ _) rfl
theorem dX11_row_17 : decode cX11_row 17 = .ok (.ifCond .ge 9, 3) := dz1 (k := 17) (m := 3) dzc0_cX11_row_0 di_231 (Nat.zero_lt_succ _) rfl
theorem dX11_row_20 : decode cX11_row 20 = .ok (.aload_n 0, 1) := dz1 (k := 20) (m := 1) dzc0_cX11_row_0 di_0 (Nat.zero_lt_succ _) rfl
theorem dX11_row_21 : decode cX11_row 21 = .ok (.iconst 5, 1) := dz1 (k := 21) (m := 1) dzc0_cX11_row_0 di_145 (Nat.zero_lt_succ _) rfl
theorem dX11_row_22 : decode cX11_row 22 = .ok (.invokevirtual 79, 3) := dz1 (k := 22) (m := 3) dzc0_cX11_row_0 di_526 (Nat.zero_lt_succ _) rfl
theorem dX11_row_25 : decode cX11_row 25 = .ok (.ireturn, 1) := dz1 (k := 25) (m := 1) dzc0_cX11_row_0 di_13 (Nat.zero_lt_succ _) rfl
theorem dX11_row_26 : decode cX11_row 26 = .ok (.aload_n 0, 1) := dz1 (k := 26) (m := 1) dzc0_cX11_row_0 di_0 (Nat.zero_lt_succ _) rfl
theorem dX11_row_27 : decode cX11_row 27 = .ok (.iload_n 1, 1) := dz1 (k := 27) (m := 1) dzc0_cX11_row_0 di_11 (Nat.zero_lt_succ _) rfl
theorem dX11_row_28 : decode cX11_row 28 = .ok (.iload_n 2, 1) := dz1 (k := 28) (m := 1) dzc0_cX11_row_0 di_28 (Nat.zero_lt_succ _) rfl
theorem dX11_row_29 : decode cX11_row 29 = .ok (.invokevirtual 83, 3) := dz1 (k := 29) (m := 3) dzc0_cX11_row_0 di_527 (Nat.zero_lt_succ _) rfl
set_option maxRecDepth 100000 in
theorem dzc0_cX11_row_32 : DzLies cX11_row (.mk ⟨[0x1c, 0xac]⟩) 32 := dz_lies (m := 2) (Nat.zero_lt_succ _) rfl
theorem dX11_row_32 : decode cX11_row 32 = .ok (.iload_n 2, 1) := dz1 (k := 0) (m := 1) dzc0_cX11_row_32 di_28 (Nat.zero_lt_succ _) rfl
theorem dX11_row_33 : decode cX11_row 33 = .ok (.ireturn, 1) := dz1 (k := 1) (m := 1) dzc0_cX11_row_32 di_13 (Nat.zero_lt_succ _) rfl
set_option maxRecDepth 100000 in
theorem dzc0_cX11_lay_0 : DzLies cX11_lay (.mk ⟨[0x2a, 0x1b, 0xb6, 0x00, 0x4b, 0x9a, 0x00, 0x05, 0x02, 0xac, 0x2a, 0xb4, 0x00, 0x07, 0x1b, 0x2e, 0x9c, 0x00, 0x09, 0x2a, 0x04, 0xb6, 0x00, 0x4f, 0xac, 0x1c, 0x85, 0x09, 0x2a, 0xb4, 0x00, 0x07]⟩) 0 := dz_lies (m := 32) (Nat.zero_lt_succ _) rfl
theorem dX11_lay_0 : decode cX11_lay 0 = .ok (.aload_n 0, 1) := dz1 (k := 0) (m := 1) dzc0_cX11_lay_0 di_0 (Nat.zero_lt_succ _) rfl
theorem dX11_lay_1 : decode cX11_lay 1 = .ok (.iload_n 1, 1) := dz1 (k := 1) (m := 1) dzc0_cX11_lay_0 di_11 (Nat.zero_lt_succ _) rfl
theorem dX11_lay_2 : decode cX11_lay 2 = .ok (.invokevirtual 75, 3) := dz1 (k := 2) (m := 3) dzc0_cX11_lay_0 di_525 (Nat.zero_lt_succ _) rfl
theorem dX11_lay_5 : decode cX11_lay 5 = .ok (.ifCond .ne 5, 3) := dz1 (k := 5) (m := 3) dzc0_cX11_lay_0 di_239 (Nat.zero_lt_succ _) rfl
theorem dX11_lay_8 : decode cX11_lay 8 = .ok (.iconst (-1), 1) := dz1 (k := 8) (m := 1) dzc0_cX11_lay_0 di_65 (Nat.zero_lt_succ _) rfl
theorem dX11_lay_9 : decode cX11_lay 9 = .ok (.ireturn, 1) := dz1 (k := 9) (m := 1) dzc0_cX11_lay_0 di_13 (Nat.zero_lt_succ _) rfl
theorem dX11_lay_10 : decode cX11_lay 10 = .ok (.aload_n 0, 1) := dz1 (k := 10) (m := 1) dzc0_cX11_lay_0 di_0 (Nat.zero_lt_succ _) rfl
theorem dX11_lay_11 : decode cX11_lay 11 = .ok (.getfield 7, 3) := dz1 (k := 11) (m := 3) dzc0_cX11_lay_0 di_514 (Nat.zero_lt_succ _) rfl
theorem dX11_lay_14 : decode cX11_lay 14 = .ok (.iload_n 1, 1) := dz1 (k := 14) (m := 1) dzc0_cX11_lay_0 di_11 (Nat.zero_lt_succ _) rfl
theorem dX11_lay_15 : decode cX11_lay 15 = .ok (.iaload, 1) := dz1 (k := 15) (m := 1) dzc0_cX11_lay_0 di_30 (Nat.zero_lt_succ _) rfl
theorem dX11_lay_16 : decode cX11_lay 16 = .ok (.ifCond .ge 9, 3) := dz1 (k := 16) (m := 3) dzc0_cX11_lay_0 di_231 (Nat.zero_lt_succ _) rfl
theorem dX11_lay_19 : decode cX11_lay 19 = .ok (.aload_n 0, 1) := dz1 (k := 19) (m := 1) dzc0_cX11_lay_0 di_0 (Nat.zero_lt_succ _) rfl
theorem dX11_lay_20 : decode cX11_lay 20 = .ok (.iconst 1, 1) := dz1 (k := 20) (m := 1) dzc0_cX11_lay_0 di_10 (Nat.zero_lt_succ _) rfl
theorem dX11_lay_21 : decode cX11_lay 21 = .ok (.invokevirtual 79, 3) := dz1 (k := 21) (m := 3) dzc0_cX11_lay_0 di_526 (Nat.zero_lt_succ _) rfl
theorem dX11_lay_24 : decode cX11_lay 24 = .ok (.ireturn, 1) := dz1 (k := 24) (m := 1) dzc0_cX11_lay_0 di_13 (Nat.zero_lt_succ _) rfl
theorem dX11_lay_25 : decode cX11_lay 25 = .ok (.iload_n 2, 1) := dz1 (k := 25) (m := 1) dzc0_cX11_lay_0 di_28 (Nat.zero_lt_succ _) rfl
theorem dX11_lay_26 : decode cX11_lay 26 = .ok (.i2l, 1) := dz1 (k := 26) (m := 1) dzc0_cX11_lay_0 di_250 (Nat.zero_lt_succ _) rfl
theorem dX11_lay_27 : decode cX11_lay 27 = .ok (.lconst 0, 1) := dz1 (k := 27) (m := 1) dzc0_cX11_lay_0 di_246 (Nat.zero_lt_succ _) rfl
theorem dX11_lay_28 : decode cX11_lay 28 = .ok (.aload_n 0, 1) := dz1 (k := 28) (m := 1) dzc0_cX11_lay_0 di_0 (Nat.zero_lt_succ _) rfl
theorem dX11_lay_29 : decode cX11_lay 29 = .ok (.getfield 7, 3) := dz1 (k := 29) (m := 3) dzc0_cX11_lay_0 di_514 (Nat.zero_lt_succ _) rfl
set_option maxRecDepth 100000 in
theorem dzc0_cX11_lay_32 : DzLies cX11_lay (.mk ⟨[0x1b, 0x2e, 0x04, 0x64, 0x85, 0xb8, 0x00, 0x45, 0x9a, 0x00, 0x09, 0x2a, 0x05, 0xb6, 0x00, 0x4f, 0xac, 0x2a, 0xb4, 0x00, 0x0d, 0x10, 0x28, 0x1b, 0x68, 0x1c, 0x60, 0x2e, 0x36, 0x04, 0x2a, 0xb4, 0x00, 0x0d]⟩) 32 := dz_lies (m := 34) (Nat.zero_lt_succ _) rfl
theorem dX11_lay_32 : decode cX11_lay 32 = .ok (.iload_n 1, 1) := dz1 (k := 0) (m := 1) dzc0_cX11_lay_32 di_11 (Nat.zero_lt_succ _) rfl
theorem dX11_lay_33 : decode cX11_lay 33 = .ok (.iaload, 1) := dz1 (k := 1) (m := 1) dzc0_cX11_lay_32 di_30 (Nat.zero_lt_succ _) rfl
theorem dX11_lay_34 : decode cX11_lay 34 = .ok (.iconst 1, 1) := dz1 (k := 2) (m := 1) dzc0_cX11_lay_32 di_10 (Nat.zero_lt_succ _) rfl
theorem dX11_lay_35 : decode cX11_lay 35 = .ok (.isub, 1) := dz1 (k := 3) (m := 1) dzc0_cX11_lay_32 di_14 (Nat.zero_lt_succ _) rfl
theorem dX11_lay_36 : decode cX11_lay 36 = .ok (.i2l, 1) := dz1 (k := 4) (m := 1) dzc0_cX11_lay_32 di_250 (Nat.zero_lt_succ _) rfl
theorem dX11_lay_37 : decode cX11_lay 37 = .ok (.invokestatic 69, 3) := dz1 (k := 5) (m := 3) dzc0_cX11_lay_32 di_522 (Nat.zero_lt_succ _) rfl
theorem dX11_lay_40 : decode cX11_lay 40 = .ok (.ifCond .ne 9, 3) := dz1 (k := 8) (m := 3) dzc0_cX11_lay_32 di_243 (Nat.zero_lt_succ _) rfl
theorem dX11_lay_43 : decode cX11_lay 43 = .ok (.aload_n 0, 1) := dz1 (k := 11) (m := 1) dzc0_cX11_lay_32 di_0 (Nat.zero_lt_succ _) rfl
theorem dX11_lay_44 : decode cX11_lay 44 = .ok (.iconst 2, 1) := dz1 (k := 12) (m := 1) dzc0_cX11_lay_32 di_6 (Nat.zero_lt_succ _) rfl
theorem dX11_lay_45 : decode cX11_lay 45 = .ok (.invokevirtual 79, 3) := dz1 (k := 13) (m := 3) dzc0_cX11_lay_32 di_526 (Nat.zero_lt_succ _) rfl
theorem dX11_lay_48 : decode cX11_lay 48 = .ok (.ireturn, 1) := dz1 (k := 16) (m := 1) dzc0_cX11_lay_32 di_13 (Nat.zero_lt_succ _) rfl
theorem dX11_lay_49 : decode cX11_lay 49 = .ok (.aload_n 0, 1) := dz1 (k := 17) (m := 1) dzc0_cX11_lay_32 di_0 (Nat.zero_lt_succ _) rfl
theorem dX11_lay_50 : decode cX11_lay 50 = .ok (.getfield 13, 3) := dz1 (k := 18) (m := 3) dzc0_cX11_lay_32 di_524 (Nat.zero_lt_succ _) rfl
theorem dX11_lay_53 : decode cX11_lay 53 = .ok (.bipush 40, 2) := dz1 (k := 21) (m := 2) dzc0_cX11_lay_32 di_16 (Nat.zero_lt_succ _) rfl
theorem dX11_lay_55 : decode cX11_lay 55 = .ok (.iload_n 1, 1) := dz1 (k := 23) (m := 1) dzc0_cX11_lay_32 di_11 (Nat.zero_lt_succ _) rfl
theorem dX11_lay_56 : decode cX11_lay 56 = .ok (.imul, 1) := dz1 (k := 24) (m := 1) dzc0_cX11_lay_32 di_113 (Nat.zero_lt_succ _) rfl
theorem dX11_lay_57 : decode cX11_lay 57 = .ok (.iload_n 2, 1) := dz1 (k := 25) (m := 1) dzc0_cX11_lay_32 di_28 (Nat.zero_lt_succ _) rfl
theorem dX11_lay_58 : decode cX11_lay 58 = .ok (.iadd, 1) := dz1 (k := 26) (m := 1) dzc0_cX11_lay_32 di_24 (Nat.zero_lt_succ _) rfl
theorem dX11_lay_59 : decode cX11_lay 59 = .ok (.iaload, 1) := dz1 (k := 27) (m := 1) dzc0_cX11_lay_32 di_30 (Nat.zero_lt_succ _) rfl
theorem dX11_lay_60 : decode cX11_lay 60 = .ok (.istore 4, 2) := dz1 (k := 28) (m := 2) dzc0_cX11_lay_32 di_51 (Nat.zero_lt_succ _) rfl
theorem dX11_lay_62 : decode cX11_lay 62 = .ok (.aload_n 0, 1) := dz1 (k := 30) (m := 1) dzc0_cX11_lay_32 di_0 (Nat.zero_lt_succ _) rfl
theorem dX11_lay_63 : decode cX11_lay 63 = .ok (.getfield 13, 3) := dz1 (k := 31) (m := 3) dzc0_cX11_lay_32 di_524 (Nat.zero_lt_succ _) rfl
set_option maxRecDepth 100000 in
theorem dzc0_cX11_lay_64 : DzLies cX11_lay (.mk ⟨[0x00, 0x0d, 0x10, 0x28, 0x1b, 0x68, 0x1c, 0x60, 0x1d, 0x4f, 0x2a, 0x15, 0x04, 0xb6, 0x00, 0x57, 0xac]⟩) 64 := dz_lies (m := 17) (Nat.zero_lt_succ _) rfl
theorem dX11_lay_66 : decode cX11_lay 66 = .ok (.bipush 40, 2) := dz1 (k := 2) (m := 2) dzc0_cX11_lay_64 di_16 (Nat.zero_lt_succ _) rfl
theorem dX11_lay_68 : decode cX11_lay 68 = .ok (.iload_n 1, 1) := dz1 (k := 4) (m := 1) dzc0_cX11_lay_64 di_11 (Nat.zero_lt_succ _) rfl
theorem dX11_lay_69 : decode cX11_lay 69 = .ok (.imul, 1) := dz1 (k := 5) (m := 1) dzc0_cX11_lay_64 di_113 (Nat.zero_lt_succ _) rfl
theorem dX11_lay_70 : decode cX11_lay 70 = .ok (.iload_n 2, 1) := dz1 (k := 6) (m := 1) dzc0_cX11_lay_64 di_28 (Nat.zero_lt_succ _) rfl
theorem dX11_lay_71 : decode cX11_lay 71 = .ok (.iadd, 1) := dz1 (k := 7) (m := 1) dzc0_cX11_lay_64 di_24 (Nat.zero_lt_succ _) rfl
theorem dX11_lay_72 : decode cX11_lay 72 = .ok (.iload_n 3, 1) := dz1 (k := 8) (m := 1) dzc0_cX11_lay_64 di_3 (Nat.zero_lt_succ _) rfl
theorem dX11_lay_73 : decode cX11_lay 73 = .ok (.iastore, 1) := dz1 (k := 9) (m := 1) dzc0_cX11_lay_64 di_22 (Nat.zero_lt_succ _) rfl
theorem dX11_lay_74 : decode cX11_lay 74 = .ok (.aload_n 0, 1) := dz1 (k := 10) (m := 1) dzc0_cX11_lay_64 di_0 (Nat.zero_lt_succ _) rfl
theorem dX11_lay_75 : decode cX11_lay 75 = .ok (.iload 4, 2) := dz1 (k := 11) (m := 2) dzc0_cX11_lay_64 di_52 (Nat.zero_lt_succ _) rfl
theorem dX11_lay_77 : decode cX11_lay 77 = .ok (.invokevirtual 87, 3) := dz1 (k := 13) (m := 3) dzc0_cX11_lay_64 di_228 (Nat.zero_lt_succ _) rfl
theorem dX11_lay_80 : decode cX11_lay 80 = .ok (.ireturn, 1) := dz1 (k := 16) (m := 1) dzc0_cX11_lay_64 di_13 (Nat.zero_lt_succ _) rfl
set_option maxRecDepth 100000 in
theorem dzc0_cX11_at_0 : DzLies cX11_at (.mk ⟨[0x2a, 0x1b, 0xb6, 0x00, 0x4b, 0x9a, 0x00, 0x05, 0x02, 0xac, 0x2a, 0xb4, 0x00, 0x07, 0x1b, 0x2e, 0x9c, 0x00, 0x09, 0x2a, 0x04, 0xb6, 0x00, 0x4f, 0xac, 0x1c, 0x85, 0x09, 0x2a, 0xb4, 0x00, 0x07]⟩) 0 := dz_lies (m := 32) (Nat.zero_lt_succ _) rfl
theorem dX11_at_0 : decode cX11_at 0 = .ok (.aload_n 0, 1) := dz1 (k := 0) (m := 1) dzc0_cX11_at_0 di_0 (Nat.zero_lt_succ _) rfl
theorem dX11_at_1 : decode cX11_at 1 = .ok (.iload_n 1, 1) := dz1 (k := 1) (m := 1) dzc0_cX11_at_0 di_11 (Nat.zero_lt_succ _) rfl
theorem dX11_at_2 : decode cX11_at 2 = .ok (.invokevirtual 75, 3) := dz1 (k := 2) (m := 3) dzc0_cX11_at_0 di_525 (Nat.zero_lt_succ _) rfl
theorem dX11_at_5 : decode cX11_at 5 = .ok (.ifCond .ne 5, 3) := dz1 (k := 5) (m := 3) dzc0_cX11_at_0 di_239 (Nat.zero_lt_succ _) rfl
theorem dX11_at_8 : decode cX11_at 8 = .ok (.iconst (-1), 1) := dz1 (k := 8) (m := 1) dzc0_cX11_at_0 di_65 (Nat.zero_lt_succ _) rfl
theorem dX11_at_9 : decode cX11_at 9 = .ok (.ireturn, 1) := dz1 (k := 9) (m := 1) dzc0_cX11_at_0 di_13 (Nat.zero_lt_succ _) rfl
theorem dX11_at_10 : decode cX11_at 10 = .ok (.aload_n 0, 1) := dz1 (k := 10) (m := 1) dzc0_cX11_at_0 di_0 (Nat.zero_lt_succ _) rfl
theorem dX11_at_11 : decode cX11_at 11 = .ok (.getfield 7, 3) := dz1 (k := 11) (m := 3) dzc0_cX11_at_0 di_514 (Nat.zero_lt_succ _) rfl
theorem dX11_at_14 : decode cX11_at 14 = .ok (.iload_n 1, 1) := dz1 (k := 14) (m := 1) dzc0_cX11_at_0 di_11 (Nat.zero_lt_succ _) rfl
theorem dX11_at_15 : decode cX11_at 15 = .ok (.iaload, 1) := dz1 (k := 15) (m := 1) dzc0_cX11_at_0 di_30 (Nat.zero_lt_succ _) rfl
theorem dX11_at_16 : decode cX11_at 16 = .ok (.ifCond .ge 9, 3) := dz1 (k := 16) (m := 3) dzc0_cX11_at_0 di_231 (Nat.zero_lt_succ _) rfl
theorem dX11_at_19 : decode cX11_at 19 = .ok (.aload_n 0, 1) := dz1 (k := 19) (m := 1) dzc0_cX11_at_0 di_0 (Nat.zero_lt_succ _) rfl
theorem dX11_at_20 : decode cX11_at 20 = .ok (.iconst 1, 1) := dz1 (k := 20) (m := 1) dzc0_cX11_at_0 di_10 (Nat.zero_lt_succ _) rfl
theorem dX11_at_21 : decode cX11_at 21 = .ok (.invokevirtual 79, 3) := dz1 (k := 21) (m := 3) dzc0_cX11_at_0 di_526 (Nat.zero_lt_succ _) rfl
theorem dX11_at_24 : decode cX11_at 24 = .ok (.ireturn, 1) := dz1 (k := 24) (m := 1) dzc0_cX11_at_0 di_13 (Nat.zero_lt_succ _) rfl
theorem dX11_at_25 : decode cX11_at 25 = .ok (.iload_n 2, 1) := dz1 (k := 25) (m := 1) dzc0_cX11_at_0 di_28 (Nat.zero_lt_succ _) rfl
theorem dX11_at_26 : decode cX11_at 26 = .ok (.i2l, 1) := dz1 (k := 26) (m := 1) dzc0_cX11_at_0 di_250 (Nat.zero_lt_succ _) rfl
theorem dX11_at_27 : decode cX11_at 27 = .ok (.lconst 0, 1) := dz1 (k := 27) (m := 1) dzc0_cX11_at_0 di_246 (Nat.zero_lt_succ _) rfl
theorem dX11_at_28 : decode cX11_at 28 = .ok (.aload_n 0, 1) := dz1 (k := 28) (m := 1) dzc0_cX11_at_0 di_0 (Nat.zero_lt_succ _) rfl
theorem dX11_at_29 : decode cX11_at 29 = .ok (.getfield 7, 3) := dz1 (k := 29) (m := 3) dzc0_cX11_at_0 di_514 (Nat.zero_lt_succ _) rfl
set_option maxRecDepth 100000 in
theorem dzc0_cX11_at_32 : DzLies cX11_at (.mk ⟨[0x1b, 0x2e, 0x04, 0x64, 0x85, 0xb8, 0x00, 0x45, 0x99, 0x00, 0x15, 0x2a, 0x2a, 0xb4, 0x00, 0x0d, 0x10, 0x28, 0x1b, 0x68, 0x1c, 0x60, 0x2e, 0xb6, 0x00, 0x57, 0xa7, 0x00, 0x08, 0x2a, 0x05, 0xb6, 0x00, 0x4f]⟩) 32 := dz_lies (m := 34) (Nat.zero_lt_succ _) rfl
theorem dX11_at_32 : decode cX11_at 32 = .ok (.iload_n 1, 1) := dz1 (k := 0) (m := 1) dzc0_cX11_at_32 di_11 (Nat.zero_lt_succ _) rfl
theorem dX11_at_33 : decode cX11_at 33 = .ok (.iaload, 1) := dz1 (k := 1) (m := 1) dzc0_cX11_at_32 di_30 (Nat.zero_lt_succ _) rfl
theorem dX11_at_34 : decode cX11_at 34 = .ok (.iconst 1, 1) := dz1 (k := 2) (m := 1) dzc0_cX11_at_32 di_10 (Nat.zero_lt_succ _) rfl
theorem dX11_at_35 : decode cX11_at 35 = .ok (.isub, 1) := dz1 (k := 3) (m := 1) dzc0_cX11_at_32 di_14 (Nat.zero_lt_succ _) rfl
theorem dX11_at_36 : decode cX11_at 36 = .ok (.i2l, 1) := dz1 (k := 4) (m := 1) dzc0_cX11_at_32 di_250 (Nat.zero_lt_succ _) rfl
theorem dX11_at_37 : decode cX11_at 37 = .ok (.invokestatic 69, 3) := dz1 (k := 5) (m := 3) dzc0_cX11_at_32 di_522 (Nat.zero_lt_succ _) rfl
theorem dX11_at_40 : decode cX11_at 40 = .ok (.ifCond .eq 21, 3) := dz1 (k := 8) (m := 3) dzc0_cX11_at_32 di_318 (Nat.zero_lt_succ _) rfl
theorem dX11_at_43 : decode cX11_at 43 = .ok (.aload_n 0, 1) := dz1 (k := 11) (m := 1) dzc0_cX11_at_32 di_0 (Nat.zero_lt_succ _) rfl
theorem dX11_at_44 : decode cX11_at 44 = .ok (.aload_n 0, 1) := dz1 (k := 12) (m := 1) dzc0_cX11_at_32 di_0 (Nat.zero_lt_succ _) rfl
theorem dX11_at_45 : decode cX11_at 45 = .ok (.getfield 13, 3) := dz1 (k := 13) (m := 3) dzc0_cX11_at_32 di_524 (Nat.zero_lt_succ _) rfl
theorem dX11_at_48 : decode cX11_at 48 = .ok (.bipush 40, 2) := dz1 (k := 16) (m := 2) dzc0_cX11_at_32 di_16 (Nat.zero_lt_succ _) rfl
theorem dX11_at_50 : decode cX11_at 50 = .ok (.iload_n 1, 1) := dz1 (k := 18) (m := 1) dzc0_cX11_at_32 di_11 (Nat.zero_lt_succ _) rfl
theorem dX11_at_51 : decode cX11_at 51 = .ok (.imul, 1) := dz1 (k := 19) (m := 1) dzc0_cX11_at_32 di_113 (Nat.zero_lt_succ _) rfl
theorem dX11_at_52 : decode cX11_at 52 = .ok (.iload_n 2, 1) := dz1 (k := 20) (m := 1) dzc0_cX11_at_32 di_28 (Nat.zero_lt_succ _) rfl
theorem dX11_at_53 : decode cX11_at 53 = .ok (.iadd, 1) := dz1 (k := 21) (m := 1) dzc0_cX11_at_32 di_24 (Nat.zero_lt_succ _) rfl
theorem dX11_at_54 : decode cX11_at 54 = .ok (.iaload, 1) := dz1 (k := 22) (m := 1) dzc0_cX11_at_32 di_30 (Nat.zero_lt_succ _) rfl
theorem dX11_at_55 : decode cX11_at 55 = .ok (.invokevirtual 87, 3) := dz1 (k := 23) (m := 3) dzc0_cX11_at_32 di_228 (Nat.zero_lt_succ _) rfl
theorem dX11_at_58 : decode cX11_at 58 = .ok (.goto 8, 3) := dz1 (k := 26) (m := 3) dzc0_cX11_at_32 di_528 (Nat.zero_lt_succ _) rfl
theorem dX11_at_61 : decode cX11_at 61 = .ok (.aload_n 0, 1) := dz1 (k := 29) (m := 1) dzc0_cX11_at_32 di_0 (Nat.zero_lt_succ _) rfl
theorem dX11_at_62 : decode cX11_at 62 = .ok (.iconst 2, 1) := dz1 (k := 30) (m := 1) dzc0_cX11_at_32 di_6 (Nat.zero_lt_succ _) rfl
theorem dX11_at_63 : decode cX11_at 63 = .ok (.invokevirtual 79, 3) := dz1 (k := 31) (m := 3) dzc0_cX11_at_32 di_526 (Nat.zero_lt_succ _) rfl
set_option maxRecDepth 100000 in
theorem dzc0_cX11_at_64 : DzLies cX11_at (.mk ⟨[0x00, 0x4f, 0xac]⟩) 64 := dz_lies (m := 3) (Nat.zero_lt_succ _) rfl
theorem dX11_at_66 : decode cX11_at 66 = .ok (.ireturn, 1) := dz1 (k := 2) (m := 1) dzc0_cX11_at_64 di_13 (Nat.zero_lt_succ _) rfl
set_option maxRecDepth 100000 in
theorem dzc0_cX11_tear_0 : DzLies cX11_tear (.mk ⟨[0x2a, 0x1b, 0xb6, 0x00, 0x4b, 0x9a, 0x00, 0x05, 0x02, 0xac, 0x2a, 0xb4, 0x00, 0x07, 0x1b, 0x2e, 0x9c, 0x00, 0x09, 0x2a, 0x04, 0xb6, 0x00, 0x4f, 0xac, 0x2a, 0xb4, 0x00, 0x07, 0x1b, 0x02, 0x4f]⟩) 0 := dz_lies (m := 32) (Nat.zero_lt_succ _) rfl
theorem dX11_tear_0 : decode cX11_tear 0 = .ok (.aload_n 0, 1) := dz1 (k := 0) (m := 1) dzc0_cX11_tear_0 di_0 (Nat.zero_lt_succ _) rfl
theorem dX11_tear_1 : decode cX11_tear 1 = .ok (.iload_n 1, 1) := dz1 (k := 1) (m := 1) dzc0_cX11_tear_0 di_11 (Nat.zero_lt_succ _) rfl
theorem dX11_tear_2 : decode cX11_tear 2 = .ok (.invokevirtual 75, 3) := dz1 (k := 2) (m := 3) dzc0_cX11_tear_0 di_525 (Nat.zero_lt_succ _) rfl
theorem dX11_tear_5 : decode cX11_tear 5 = .ok (.ifCond .ne 5, 3) := dz1 (k := 5) (m := 3) dzc0_cX11_tear_0 di_239 (Nat.zero_lt_succ _) rfl
theorem dX11_tear_8 : decode cX11_tear 8 = .ok (.iconst (-1), 1) := dz1 (k := 8) (m := 1) dzc0_cX11_tear_0 di_65 (Nat.zero_lt_succ _) rfl
theorem dX11_tear_9 : decode cX11_tear 9 = .ok (.ireturn, 1) := dz1 (k := 9) (m := 1) dzc0_cX11_tear_0 di_13 (Nat.zero_lt_succ _) rfl
theorem dX11_tear_10 : decode cX11_tear 10 = .ok (.aload_n 0, 1) := dz1 (k := 10) (m := 1) dzc0_cX11_tear_0 di_0 (Nat.zero_lt_succ _) rfl
theorem dX11_tear_11 : decode cX11_tear 11 = .ok (.getfield 7, 3) := dz1 (k := 11) (m := 3) dzc0_cX11_tear_0 di_514 (Nat.zero_lt_succ _) rfl
theorem dX11_tear_14 : decode cX11_tear 14 = .ok (.iload_n 1, 1) := dz1 (k := 14) (m := 1) dzc0_cX11_tear_0 di_11 (Nat.zero_lt_succ _) rfl
theorem dX11_tear_15 : decode cX11_tear 15 = .ok (.iaload, 1) := dz1 (k := 15) (m := 1) dzc0_cX11_tear_0 di_30 (Nat.zero_lt_succ _) rfl
theorem dX11_tear_16 : decode cX11_tear 16 = .ok (.ifCond .ge 9, 3) := dz1 (k := 16) (m := 3) dzc0_cX11_tear_0 di_231 (Nat.zero_lt_succ _) rfl
theorem dX11_tear_19 : decode cX11_tear 19 = .ok (.aload_n 0, 1) := dz1 (k := 19) (m := 1) dzc0_cX11_tear_0 di_0 (Nat.zero_lt_succ _) rfl
theorem dX11_tear_20 : decode cX11_tear 20 = .ok (.iconst 1, 1) := dz1 (k := 20) (m := 1) dzc0_cX11_tear_0 di_10 (Nat.zero_lt_succ _) rfl
theorem dX11_tear_21 : decode cX11_tear 21 = .ok (.invokevirtual 79, 3) := dz1 (k := 21) (m := 3) dzc0_cX11_tear_0 di_526 (Nat.zero_lt_succ _) rfl
theorem dX11_tear_24 : decode cX11_tear 24 = .ok (.ireturn, 1) := dz1 (k := 24) (m := 1) dzc0_cX11_tear_0 di_13 (Nat.zero_lt_succ _) rfl
theorem dX11_tear_25 : decode cX11_tear 25 = .ok (.aload_n 0, 1) := dz1 (k := 25) (m := 1) dzc0_cX11_tear_0 di_0 (Nat.zero_lt_succ _) rfl
theorem dX11_tear_26 : decode cX11_tear 26 = .ok (.getfield 7, 3) := dz1 (k := 26) (m := 3) dzc0_cX11_tear_0 di_514 (Nat.zero_lt_succ _) rfl
theorem dX11_tear_29 : decode cX11_tear 29 = .ok (.iload_n 1, 1) := dz1 (k := 29) (m := 1) dzc0_cX11_tear_0 di_11 (Nat.zero_lt_succ _) rfl
theorem dX11_tear_30 : decode cX11_tear 30 = .ok (.iconst (-1), 1) := dz1 (k := 30) (m := 1) dzc0_cX11_tear_0 di_65 (Nat.zero_lt_succ _) rfl
theorem dX11_tear_31 : decode cX11_tear 31 = .ok (.iastore, 1) := dz1 (k := 31) (m := 1) dzc0_cX11_tear_0 di_22 (Nat.zero_lt_succ _) rfl
set_option maxRecDepth 100000 in
theorem dzc0_cX11_tear_32 : DzLies cX11_tear (.mk ⟨[0x04, 0xac]⟩) 32 := dz_lies (m := 2) (Nat.zero_lt_succ _) rfl
theorem dX11_tear_32 : decode cX11_tear 32 = .ok (.iconst 1, 1) := dz1 (k := 0) (m := 1) dzc0_cX11_tear_32 di_10 (Nat.zero_lt_succ _) rfl
theorem dX11_tear_33 : decode cX11_tear 33 = .ok (.ireturn, 1) := dz1 (k := 1) (m := 1) dzc0_cX11_tear_32 di_13 (Nat.zero_lt_succ _) rfl
set_option maxRecDepth 100000 in
theorem dzc0_cX11_copy_0 : DzLies cX11_copy (.mk ⟨[0x2a, 0x1b, 0xb6, 0x00, 0x4b, 0x99, 0x00, 0x0b, 0x2a, 0x1d, 0xb6, 0x00, 0x4b, 0x9a, 0x00, 0x05, 0x02, 0xac, 0x15, 0x05, 0x9c, 0x00, 0x09, 0x2a, 0x08, 0xb6, 0x00, 0x4f, 0xac, 0x2a, 0xb4, 0x00, 0x07]⟩) 0 := dz_lies (m := 33) (Nat.zero_lt_succ _) rfl
theorem dX11_copy_0 : decode cX11_copy 0 = .ok (.aload_n 0, 1) := dz1 (k := 0) (m := 1) dzc0_cX11_copy_0 di_0 (Nat.zero_lt_succ _) rfl
theorem dX11_copy_1 : decode cX11_copy 1 = .ok (.iload_n 1, 1) := dz1 (k := 1) (m := 1) dzc0_cX11_copy_0 di_11 (Nat.zero_lt_succ _) rfl
theorem dX11_copy_2 : decode cX11_copy 2 = .ok (.invokevirtual 75, 3) := dz1 (k := 2) (m := 3) dzc0_cX11_copy_0 di_525 (Nat.zero_lt_succ _) rfl
theorem dX11_copy_5 : decode cX11_copy 5 = .ok (.ifCond .eq 11, 3) := dz1 (k := 5) (m := 3) dzc0_cX11_copy_0 di_238 (Nat.zero_lt_succ _) rfl
theorem dX11_copy_8 : decode cX11_copy 8 = .ok (.aload_n 0, 1) := dz1 (k := 8) (m := 1) dzc0_cX11_copy_0 di_0 (Nat.zero_lt_succ _) rfl
theorem dX11_copy_9 : decode cX11_copy 9 = .ok (.iload_n 3, 1) := dz1 (k := 9) (m := 1) dzc0_cX11_copy_0 di_3 (Nat.zero_lt_succ _) rfl
theorem dX11_copy_10 : decode cX11_copy 10 = .ok (.invokevirtual 75, 3) := dz1 (k := 10) (m := 3) dzc0_cX11_copy_0 di_525 (Nat.zero_lt_succ _) rfl
theorem dX11_copy_13 : decode cX11_copy 13 = .ok (.ifCond .ne 5, 3) := dz1 (k := 13) (m := 3) dzc0_cX11_copy_0 di_239 (Nat.zero_lt_succ _) rfl
theorem dX11_copy_16 : decode cX11_copy 16 = .ok (.iconst (-1), 1) := dz1 (k := 16) (m := 1) dzc0_cX11_copy_0 di_65 (Nat.zero_lt_succ _) rfl
theorem dX11_copy_17 : decode cX11_copy 17 = .ok (.ireturn, 1) := dz1 (k := 17) (m := 1) dzc0_cX11_copy_0 di_13 (Nat.zero_lt_succ _) rfl
theorem dX11_copy_18 : decode cX11_copy 18 = .ok (.iload 5, 2) := dz1 (k := 18) (m := 2) dzc0_cX11_copy_0 di_101 (Nat.zero_lt_succ _) rfl
theorem dX11_copy_20 : decode cX11_copy 20 = .ok (.ifCond .ge 9, 3) := dz1 (k := 20) (m := 3) dzc0_cX11_copy_0 di_231 (Nat.zero_lt_succ _) rfl
theorem dX11_copy_23 : decode cX11_copy 23 = .ok (.aload_n 0, 1) := dz1 (k := 23) (m := 1) dzc0_cX11_copy_0 di_0 (Nat.zero_lt_succ _) rfl
theorem dX11_copy_24 : decode cX11_copy 24 = .ok (.iconst 5, 1) := dz1 (k := 24) (m := 1) dzc0_cX11_copy_0 di_145 (Nat.zero_lt_succ _) rfl
theorem dX11_copy_25 : decode cX11_copy 25 = .ok (.invokevirtual 79, 3) := dz1 (k := 25) (m := 3) dzc0_cX11_copy_0 di_526 (Nat.zero_lt_succ _) rfl
theorem dX11_copy_28 : decode cX11_copy 28 = .ok (.ireturn, 1) := dz1 (k := 28) (m := 1) dzc0_cX11_copy_0 di_13 (Nat.zero_lt_succ _) rfl
theorem dX11_copy_29 : decode cX11_copy 29 = .ok (.aload_n 0, 1) := dz1 (k := 29) (m := 1) dzc0_cX11_copy_0 di_0 (Nat.zero_lt_succ _) rfl
theorem dX11_copy_30 : decode cX11_copy 30 = .ok (.getfield 7, 3) := dz1 (k := 30) (m := 3) dzc0_cX11_copy_0 di_514 (Nat.zero_lt_succ _) rfl
set_option maxRecDepth 100000 in
theorem dzc0_cX11_copy_32 : DzLies cX11_copy (.mk ⟨[0x07, 0x1b, 0x2e, 0x9b, 0x00, 0x0c, 0x2a, 0xb4, 0x00, 0x07, 0x1d, 0x2e, 0x9c, 0x00, 0x09, 0x2a, 0x04, 0xb6, 0x00, 0x4f, 0xac, 0x1c, 0x9b, 0x00, 0x2b, 0x15, 0x04, 0x9b, 0x00, 0x26, 0x1c, 0x85]⟩) 32 := dz_lies (m := 32) (Nat.zero_lt_succ _) rfl
theorem dX11_copy_33 : decode cX11_copy 33 = .ok (.iload_n 1, 1) := dz1 (k := 1) (m := 1) dzc0_cX11_copy_32 di_11 (Nat.zero_lt_succ _) rfl
theorem dX11_copy_34 : decode cX11_copy 34 = .ok (.iaload, 1) := dz1 (k := 2) (m := 1) dzc0_cX11_copy_32 di_30 (Nat.zero_lt_succ _) rfl
theorem dX11_copy_35 : decode cX11_copy 35 = .ok (.ifCond .lt 12, 3) := dz1 (k := 3) (m := 3) dzc0_cX11_copy_32 di_240 (Nat.zero_lt_succ _) rfl
theorem dX11_copy_38 : decode cX11_copy 38 = .ok (.aload_n 0, 1) := dz1 (k := 6) (m := 1) dzc0_cX11_copy_32 di_0 (Nat.zero_lt_succ _) rfl
theorem dX11_copy_39 : decode cX11_copy 39 = .ok (.getfield 7, 3) := dz1 (k := 7) (m := 3) dzc0_cX11_copy_32 di_514 (Nat.zero_lt_succ _) rfl
theorem dX11_copy_42 : decode cX11_copy 42 = .ok (.iload_n 3, 1) := dz1 (k := 10) (m := 1) dzc0_cX11_copy_32 di_3 (Nat.zero_lt_succ _) rfl
theorem dX11_copy_43 : decode cX11_copy 43 = .ok (.iaload, 1) := dz1 (k := 11) (m := 1) dzc0_cX11_copy_32 di_30 (Nat.zero_lt_succ _) rfl
theorem dX11_copy_44 : decode cX11_copy 44 = .ok (.ifCond .ge 9, 3) := dz1 (k := 12) (m := 3) dzc0_cX11_copy_32 di_231 (Nat.zero_lt_succ _) rfl
theorem dX11_copy_47 : decode cX11_copy 47 = .ok (.aload_n 0, 1) := dz1 (k := 15) (m := 1) dzc0_cX11_copy_32 di_0 (Nat.zero_lt_succ _) rfl
theorem dX11_copy_48 : decode cX11_copy 48 = .ok (.iconst 1, 1) := dz1 (k := 16) (m := 1) dzc0_cX11_copy_32 di_10 (Nat.zero_lt_succ _) rfl
theorem dX11_copy_49 : decode cX11_copy 49 = .ok (.invokevirtual 79, 3) := dz1 (k := 17) (m := 3) dzc0_cX11_copy_32 di_526 (Nat.zero_lt_succ _) rfl
theorem dX11_copy_52 : decode cX11_copy 52 = .ok (.ireturn, 1) := dz1 (k := 20) (m := 1) dzc0_cX11_copy_32 di_13 (Nat.zero_lt_succ _) rfl
theorem dX11_copy_53 : decode cX11_copy 53 = .ok (.iload_n 2, 1) := dz1 (k := 21) (m := 1) dzc0_cX11_copy_32 di_28 (Nat.zero_lt_succ _) rfl
theorem dX11_copy_54 : decode cX11_copy 54 = .ok (.ifCond .lt 43, 3) := dz1 (k := 22) (m := 3) dzc0_cX11_copy_32 di_529 (Nat.zero_lt_succ _) rfl
theorem dX11_copy_57 : decode cX11_copy 57 = .ok (.iload 4, 2) := dz1 (k := 25) (m := 2) dzc0_cX11_copy_32 di_52 (Nat.zero_lt_succ _) rfl
theorem dX11_copy_59 : decode cX11_copy 59 = .ok (.ifCond .lt 38, 3) := dz1 (k := 27) (m := 3) dzc0_cX11_copy_32 di_530 (Nat.zero_lt_succ _) rfl
theorem dX11_copy_62 : decode cX11_copy 62 = .ok (.iload_n 2, 1) := dz1 (k := 30) (m := 1) dzc0_cX11_copy_32 di_28 (Nat.zero_lt_succ _) rfl
theorem dX11_copy_63 : decode cX11_copy 63 = .ok (.i2l, 1) := dz1 (k := 31) (m := 1) dzc0_cX11_copy_32 di_250 (Nat.zero_lt_succ _) rfl
set_option maxRecDepth 100000 in
theorem dzc0_cX11_copy_64 : DzLies cX11_copy (.mk ⟨[0x15, 0x05, 0x85, 0x61, 0x2a, 0xb4, 0x00, 0x07, 0x1b, 0x2e, 0x85, 0x94, 0x9d, 0x00, 0x15, 0x15, 0x04, 0x85, 0x15, 0x05, 0x85, 0x61, 0x2a, 0xb4, 0x00, 0x07, 0x1d, 0x2e, 0x85, 0x94, 0x9e, 0x00, 0x09]⟩) 64 := dz_lies (m := 33) (Nat.zero_lt_succ _) rfl
theorem dX11_copy_64 : decode cX11_copy 64 = .ok (.iload 5, 2) := dz1 (k := 0) (m := 2) dzc0_cX11_copy_64 di_101 (Nat.zero_lt_succ _) rfl
theorem dX11_copy_66 : decode cX11_copy 66 = .ok (.i2l, 1) := dz1 (k := 2) (m := 1) dzc0_cX11_copy_64 di_250 (Nat.zero_lt_succ _) rfl
theorem dX11_copy_67 : decode cX11_copy 67 = .ok (.ladd, 1) := dz1 (k := 3) (m := 1) dzc0_cX11_copy_64 di_251 (Nat.zero_lt_succ _) rfl
theorem dX11_copy_68 : decode cX11_copy 68 = .ok (.aload_n 0, 1) := dz1 (k := 4) (m := 1) dzc0_cX11_copy_64 di_0 (Nat.zero_lt_succ _) rfl
theorem dX11_copy_69 : decode cX11_copy 69 = .ok (.getfield 7, 3) := dz1 (k := 5) (m := 3) dzc0_cX11_copy_64 di_514 (Nat.zero_lt_succ _) rfl
theorem dX11_copy_72 : decode cX11_copy 72 = .ok (.iload_n 1, 1) := dz1 (k := 8) (m := 1) dzc0_cX11_copy_64 di_11 (Nat.zero_lt_succ _) rfl
theorem dX11_copy_73 : decode cX11_copy 73 = .ok (.iaload, 1) := dz1 (k := 9) (m := 1) dzc0_cX11_copy_64 di_30 (Nat.zero_lt_succ _) rfl
theorem dX11_copy_74 : decode cX11_copy 74 = .ok (.i2l, 1) := dz1 (k := 10) (m := 1) dzc0_cX11_copy_64 di_250 (Nat.zero_lt_succ _) rfl
theorem dX11_copy_75 : decode cX11_copy 75 = .ok (.lcmp, 1) := dz1 (k := 11) (m := 1) dzc0_cX11_copy_64 di_376 (Nat.zero_lt_succ _) rfl
theorem dX11_copy_76 : decode cX11_copy 76 = .ok (.ifCond .gt 21, 3) := dz1 (k := 12) (m := 3) dzc0_cX11_copy_64 di_531 (Nat.zero_lt_succ _) rfl
theorem dX11_copy_79 : decode cX11_copy 79 = .ok (.iload 4, 2) := dz1 (k := 15) (m := 2) dzc0_cX11_copy_64 di_52 (Nat.zero_lt_succ _) rfl
theorem dX11_copy_81 : decode cX11_copy 81 = .ok (.i2l, 1) := dz1 (k := 17) (m := 1) dzc0_cX11_copy_64 di_250 (Nat.zero_lt_succ _) rfl
theorem dX11_copy_82 : decode cX11_copy 82 = .ok (.iload 5, 2) := dz1 (k := 18) (m := 2) dzc0_cX11_copy_64 di_101 (Nat.zero_lt_succ _) rfl
theorem dX11_copy_84 : decode cX11_copy 84 = .ok (.i2l, 1) := dz1 (k := 20) (m := 1) dzc0_cX11_copy_64 di_250 (Nat.zero_lt_succ _) rfl
theorem dX11_copy_85 : decode cX11_copy 85 = .ok (.ladd, 1) := dz1 (k := 21) (m := 1) dzc0_cX11_copy_64 di_251 (Nat.zero_lt_succ _) rfl
theorem dX11_copy_86 : decode cX11_copy 86 = .ok (.aload_n 0, 1) := dz1 (k := 22) (m := 1) dzc0_cX11_copy_64 di_0 (Nat.zero_lt_succ _) rfl
theorem dX11_copy_87 : decode cX11_copy 87 = .ok (.getfield 7, 3) := dz1 (k := 23) (m := 3) dzc0_cX11_copy_64 di_514 (Nat.zero_lt_succ _) rfl
theorem dX11_copy_90 : decode cX11_copy 90 = .ok (.iload_n 3, 1) := dz1 (k := 26) (m := 1) dzc0_cX11_copy_64 di_3 (Nat.zero_lt_succ _) rfl
theorem dX11_copy_91 : decode cX11_copy 91 = .ok (.iaload, 1) := dz1 (k := 27) (m := 1) dzc0_cX11_copy_64 di_30 (Nat.zero_lt_succ _) rfl
theorem dX11_copy_92 : decode cX11_copy 92 = .ok (.i2l, 1) := dz1 (k := 28) (m := 1) dzc0_cX11_copy_64 di_250 (Nat.zero_lt_succ _) rfl
theorem dX11_copy_93 : decode cX11_copy 93 = .ok (.lcmp, 1) := dz1 (k := 29) (m := 1) dzc0_cX11_copy_64 di_376 (Nat.zero_lt_succ _) rfl
theorem dX11_copy_94 : decode cX11_copy 94 = .ok (.ifCond .le 9, 3) := dz1 (k := 30) (m := 3) dzc0_cX11_copy_64 di_532 (Nat.zero_lt_succ _) rfl
set_option maxRecDepth 100000 in
theorem dzc0_cX11_copy_96 : DzLies cX11_copy (.mk ⟨[0x09, 0x2a, 0x05, 0xb6, 0x00, 0x4f, 0xac, 0x03, 0x36, 0x06, 0x15, 0x06, 0x15, 0x05, 0xa2, 0x00, 0x1e, 0x2a, 0xb4, 0x00, 0x10, 0x15, 0x06, 0x2a, 0xb4, 0x00, 0x0d, 0x10, 0x28, 0x1b, 0x68, 0x1c]⟩) 96 := dz_lies (m := 32) (Nat.zero_lt_succ _) rfl
theorem dX11_copy_97 : decode cX11_copy 97 = .ok (.aload_n 0, 1) := dz1 (k := 1) (m := 1) dzc0_cX11_copy_96 di_0 (Nat.zero_lt_succ _) rfl
theorem dX11_copy_98 : decode cX11_copy 98 = .ok (.iconst 2, 1) := dz1 (k := 2) (m := 1) dzc0_cX11_copy_96 di_6 (Nat.zero_lt_succ _) rfl
theorem dX11_copy_99 : decode cX11_copy 99 = .ok (.invokevirtual 79, 3) := dz1 (k := 3) (m := 3) dzc0_cX11_copy_96 di_526 (Nat.zero_lt_succ _) rfl
theorem dX11_copy_102 : decode cX11_copy 102 = .ok (.ireturn, 1) := dz1 (k := 6) (m := 1) dzc0_cX11_copy_96 di_13 (Nat.zero_lt_succ _) rfl
theorem dX11_copy_103 : decode cX11_copy 103 = .ok (.iconst 0, 1) := dz1 (k := 7) (m := 1) dzc0_cX11_copy_96 di_8 (Nat.zero_lt_succ _) rfl
theorem dX11_copy_104 : decode cX11_copy 104 = .ok (.istore 6, 2) := dz1 (k := 8) (m := 2) dzc0_cX11_copy_96 di_114 (Nat.zero_lt_succ _) rfl
theorem dX11_copy_106 : decode cX11_copy 106 = .ok (.iload 6, 2) := dz1 (k := 10) (m := 2) dzc0_cX11_copy_96 di_115 (Nat.zero_lt_succ _) rfl
theorem dX11_copy_108 : decode cX11_copy 108 = .ok (.iload 5, 2) := dz1 (k := 12) (m := 2) dzc0_cX11_copy_96 di_101 (Nat.zero_lt_succ _) rfl
theorem dX11_copy_110 : decode cX11_copy 110 = .ok (.if_icmp .ge 30, 3) := dz1 (k := 14) (m := 3) dzc0_cX11_copy_96 di_168 (Nat.zero_lt_succ _) rfl
theorem dX11_copy_113 : decode cX11_copy 113 = .ok (.aload_n 0, 1) := dz1 (k := 17) (m := 1) dzc0_cX11_copy_96 di_0 (Nat.zero_lt_succ _) rfl
theorem dX11_copy_114 : decode cX11_copy 114 = .ok (.getfield 16, 3) := dz1 (k := 18) (m := 3) dzc0_cX11_copy_96 di_533 (Nat.zero_lt_succ _) rfl
theorem dX11_copy_117 : decode cX11_copy 117 = .ok (.iload 6, 2) := dz1 (k := 21) (m := 2) dzc0_cX11_copy_96 di_115 (Nat.zero_lt_succ _) rfl
theorem dX11_copy_119 : decode cX11_copy 119 = .ok (.aload_n 0, 1) := dz1 (k := 23) (m := 1) dzc0_cX11_copy_96 di_0 (Nat.zero_lt_succ _) rfl
theorem dX11_copy_120 : decode cX11_copy 120 = .ok (.getfield 13, 3) := dz1 (k := 24) (m := 3) dzc0_cX11_copy_96 di_524 (Nat.zero_lt_succ _) rfl
theorem dX11_copy_123 : decode cX11_copy 123 = .ok (.bipush 40, 2) := dz1 (k := 27) (m := 2) dzc0_cX11_copy_96 di_16 (Nat.zero_lt_succ _) rfl
theorem dX11_copy_125 : decode cX11_copy 125 = .ok (.iload_n 1, 1) := dz1 (k := 29) (m := 1) dzc0_cX11_copy_96 di_11 (Nat.zero_lt_succ _) rfl
theorem dX11_copy_126 : decode cX11_copy 126 = .ok (.imul, 1) := dz1 (k := 30) (m := 1) dzc0_cX11_copy_96 di_113 (Nat.zero_lt_succ _) rfl
theorem dX11_copy_127 : decode cX11_copy 127 = .ok (.iload_n 2, 1) := dz1 (k := 31) (m := 1) dzc0_cX11_copy_96 di_28 (Nat.zero_lt_succ _) rfl
set_option maxRecDepth 100000 in
theorem dzc0_cX11_copy_128 : DzLies cX11_copy (.mk ⟨[0x60, 0x15, 0x06, 0x60, 0x2e, 0x4f, 0x84, 0x06, 0x01, 0xa7, 0xff, 0xe1, 0x03, 0x36, 0x06, 0x15, 0x06, 0x15, 0x05, 0xa2, 0x00, 0x1f, 0x2a, 0xb4, 0x00, 0x0d, 0x10, 0x28, 0x1d, 0x68, 0x15, 0x04]⟩) 128 := dz_lies (m := 32) (Nat.zero_lt_succ _) rfl
theorem dX11_copy_128 : decode cX11_copy 128 = .ok (.iadd, 1) := dz1 (k := 0) (m := 1) dzc0_cX11_copy_128 di_24 (Nat.zero_lt_succ _) rfl
theorem dX11_copy_129 : decode cX11_copy 129 = .ok (.iload 6, 2) := dz1 (k := 1) (m := 2) dzc0_cX11_copy_128 di_115 (Nat.zero_lt_succ _) rfl
theorem dX11_copy_131 : decode cX11_copy 131 = .ok (.iadd, 1) := dz1 (k := 3) (m := 1) dzc0_cX11_copy_128 di_24 (Nat.zero_lt_succ _) rfl
theorem dX11_copy_132 : decode cX11_copy 132 = .ok (.iaload, 1) := dz1 (k := 4) (m := 1) dzc0_cX11_copy_128 di_30 (Nat.zero_lt_succ _) rfl
theorem dX11_copy_133 : decode cX11_copy 133 = .ok (.iastore, 1) := dz1 (k := 5) (m := 1) dzc0_cX11_copy_128 di_22 (Nat.zero_lt_succ _) rfl
theorem dX11_copy_134 : decode cX11_copy 134 = .ok (.iinc 6 1, 3) := dz1 (k := 6) (m := 3) dzc0_cX11_copy_128 di_252 (Nat.zero_lt_succ _) rfl
theorem dX11_copy_137 : decode cX11_copy 137 = .ok (.goto (-31), 3) := dz1 (k := 9) (m := 3) dzc0_cX11_copy_128 di_169 (Nat.zero_lt_succ _) rfl
theorem dX11_copy_140 : decode cX11_copy 140 = .ok (.iconst 0, 1) := dz1 (k := 12) (m := 1) dzc0_cX11_copy_128 di_8 (Nat.zero_lt_succ _) rfl
theorem dX11_copy_141 : decode cX11_copy 141 = .ok (.istore 6, 2) := dz1 (k := 13) (m := 2) dzc0_cX11_copy_128 di_114 (Nat.zero_lt_succ _) rfl
theorem dX11_copy_143 : decode cX11_copy 143 = .ok (.iload 6, 2) := dz1 (k := 15) (m := 2) dzc0_cX11_copy_128 di_115 (Nat.zero_lt_succ _) rfl
theorem dX11_copy_145 : decode cX11_copy 145 = .ok (.iload 5, 2) := dz1 (k := 17) (m := 2) dzc0_cX11_copy_128 di_101 (Nat.zero_lt_succ _) rfl
theorem dX11_copy_147 : decode cX11_copy 147 = .ok (.if_icmp .ge 31, 3) := dz1 (k := 19) (m := 3) dzc0_cX11_copy_128 di_325 (Nat.zero_lt_succ _) rfl
theorem dX11_copy_150 : decode cX11_copy 150 = .ok (.aload_n 0, 1) := dz1 (k := 22) (m := 1) dzc0_cX11_copy_128 di_0 (Nat.zero_lt_succ _) rfl
theorem dX11_copy_151 : decode cX11_copy 151 = .ok (.getfield 13, 3) := dz1 (k := 23) (m := 3) dzc0_cX11_copy_128 di_524 (Nat.zero_lt_succ _) rfl
theorem dX11_copy_154 : decode cX11_copy 154 = .ok (.bipush 40, 2) := dz1 (k := 26) (m := 2) dzc0_cX11_copy_128 di_16 (Nat.zero_lt_succ _) rfl
theorem dX11_copy_156 : decode cX11_copy 156 = .ok (.iload_n 3, 1) := dz1 (k := 28) (m := 1) dzc0_cX11_copy_128 di_3 (Nat.zero_lt_succ _) rfl
theorem dX11_copy_157 : decode cX11_copy 157 = .ok (.imul, 1) := dz1 (k := 29) (m := 1) dzc0_cX11_copy_128 di_113 (Nat.zero_lt_succ _) rfl
theorem dX11_copy_158 : decode cX11_copy 158 = .ok (.iload 4, 2) := dz1 (k := 30) (m := 2) dzc0_cX11_copy_128 di_52 (Nat.zero_lt_succ _) rfl
set_option maxRecDepth 100000 in
theorem dzc0_cX11_copy_160 : DzLies cX11_copy (.mk ⟨[0x60, 0x15, 0x06, 0x60, 0x2a, 0xb4, 0x00, 0x10, 0x15, 0x06, 0x2e, 0x4f, 0x84, 0x06, 0x01, 0xa7, 0xff, 0xe0, 0x04, 0xac]⟩) 160 := dz_lies (m := 20) (Nat.zero_lt_succ _) rfl
theorem dX11_copy_160 : decode cX11_copy 160 = .ok (.iadd, 1) := dz1 (k := 0) (m := 1) dzc0_cX11_copy_160 di_24 (Nat.zero_lt_succ _) rfl
theorem dX11_copy_161 : decode cX11_copy 161 = .ok (.iload 6, 2) := dz1 (k := 1) (m := 2) dzc0_cX11_copy_160 di_115 (Nat.zero_lt_succ _) rfl
theorem dX11_copy_163 : decode cX11_copy 163 = .ok (.iadd, 1) := dz1 (k := 3) (m := 1) dzc0_cX11_copy_160 di_24 (Nat.zero_lt_succ _) rfl
theorem dX11_copy_164 : decode cX11_copy 164 = .ok (.aload_n 0, 1) := dz1 (k := 4) (m := 1) dzc0_cX11_copy_160 di_0 (Nat.zero_lt_succ _) rfl
theorem dX11_copy_165 : decode cX11_copy 165 = .ok (.getfield 16, 3) := dz1 (k := 5) (m := 3) dzc0_cX11_copy_160 di_533 (Nat.zero_lt_succ _) rfl
theorem dX11_copy_168 : decode cX11_copy 168 = .ok (.iload 6, 2) := dz1 (k := 8) (m := 2) dzc0_cX11_copy_160 di_115 (Nat.zero_lt_succ _) rfl
theorem dX11_copy_170 : decode cX11_copy 170 = .ok (.iaload, 1) := dz1 (k := 10) (m := 1) dzc0_cX11_copy_160 di_30 (Nat.zero_lt_succ _) rfl
theorem dX11_copy_171 : decode cX11_copy 171 = .ok (.iastore, 1) := dz1 (k := 11) (m := 1) dzc0_cX11_copy_160 di_22 (Nat.zero_lt_succ _) rfl
theorem dX11_copy_172 : decode cX11_copy 172 = .ok (.iinc 6 1, 3) := dz1 (k := 12) (m := 3) dzc0_cX11_copy_160 di_252 (Nat.zero_lt_succ _) rfl
theorem dX11_copy_175 : decode cX11_copy 175 = .ok (.goto (-32), 3) := dz1 (k := 15) (m := 3) dzc0_cX11_copy_160 di_491 (Nat.zero_lt_succ _) rfl
theorem dX11_copy_178 : decode cX11_copy 178 = .ok (.iconst 1, 1) := dz1 (k := 18) (m := 1) dzc0_cX11_copy_160 di_10 (Nat.zero_lt_succ _) rfl
theorem dX11_copy_179 : decode cX11_copy 179 = .ok (.ireturn, 1) := dz1 (k := 19) (m := 1) dzc0_cX11_copy_160 di_13 (Nat.zero_lt_succ _) rfl
set_option maxRecDepth 100000 in
theorem dzc0_cX11_mean_0 : DzLies cX11_mean (.mk ⟨[0x2a, 0x1b, 0xb6, 0x00, 0x4b, 0x9a, 0x00, 0x05, 0x02, 0xac, 0x2a, 0xb4, 0x00, 0x07, 0x1b, 0x2e, 0x9c, 0x00, 0x09, 0x2a, 0x04, 0xb6, 0x00, 0x4f, 0xac, 0x2a, 0xb4, 0x00, 0x07, 0x1b, 0x2e, 0x9a, 0x00, 0x09]⟩) 0 := dz_lies (m := 34) (Nat.zero_lt_succ _) rfl
theorem dX11_mean_0 : decode cX11_mean 0 = .ok (.aload_n 0, 1) := dz1 (k := 0) (m := 1) dzc0_cX11_mean_0 di_0 (Nat.zero_lt_succ _) rfl
theorem dX11_mean_1 : decode cX11_mean 1 = .ok (.iload_n 1, 1) := dz1 (k := 1) (m := 1) dzc0_cX11_mean_0 di_11 (Nat.zero_lt_succ _) rfl
theorem dX11_mean_2 : decode cX11_mean 2 = .ok (.invokevirtual 75, 3) := dz1 (k := 2) (m := 3) dzc0_cX11_mean_0 di_525 (Nat.zero_lt_succ _) rfl
theorem dX11_mean_5 : decode cX11_mean 5 = .ok (.ifCond .ne 5, 3) := dz1 (k := 5) (m := 3) dzc0_cX11_mean_0 di_239 (Nat.zero_lt_succ _) rfl
theorem dX11_mean_8 : decode cX11_mean 8 = .ok (.iconst (-1), 1) := dz1 (k := 8) (m := 1) dzc0_cX11_mean_0 di_65 (Nat.zero_lt_succ _) rfl
theorem dX11_mean_9 : decode cX11_mean 9 = .ok (.ireturn, 1) := dz1 (k := 9) (m := 1) dzc0_cX11_mean_0 di_13 (Nat.zero_lt_succ _) rfl
theorem dX11_mean_10 : decode cX11_mean 10 = .ok (.aload_n 0, 1) := dz1 (k := 10) (m := 1) dzc0_cX11_mean_0 di_0 (Nat.zero_lt_succ _) rfl
theorem dX11_mean_11 : decode cX11_mean 11 = .ok (.getfield 7, 3) := dz1 (k := 11) (m := 3) dzc0_cX11_mean_0 di_514 (Nat.zero_lt_succ _) rfl
theorem dX11_mean_14 : decode cX11_mean 14 = .ok (.iload_n 1, 1) := dz1 (k := 14) (m := 1) dzc0_cX11_mean_0 di_11 (Nat.zero_lt_succ _) rfl
theorem dX11_mean_15 : decode cX11_mean 15 = .ok (.iaload, 1) := dz1 (k := 15) (m := 1) dzc0_cX11_mean_0 di_30 (Nat.zero_lt_succ _) rfl
theorem dX11_mean_16 : decode cX11_mean 16 = .ok (.ifCond .ge 9, 3) := dz1 (k := 16) (m := 3) dzc0_cX11_mean_0 di_231 (Nat.zero_lt_succ _) rfl
theorem dX11_mean_19 : decode cX11_mean 19 = .ok (.aload_n 0, 1) := dz1 (k := 19) (m := 1) dzc0_cX11_mean_0 di_0 (Nat.zero_lt_succ _) rfl
theorem dX11_mean_20 : decode cX11_mean 20 = .ok (.iconst 1, 1) := dz1 (k := 20) (m := 1) dzc0_cX11_mean_0 di_10 (Nat.zero_lt_succ _) rfl
theorem dX11_mean_21 : decode cX11_mean 21 = .ok (.invokevirtual 79, 3) := dz1 (k := 21) (m := 3) dzc0_cX11_mean_0 di_526 (Nat.zero_lt_succ _) rfl
theorem dX11_mean_24 : decode cX11_mean 24 = .ok (.ireturn, 1) := dz1 (k := 24) (m := 1) dzc0_cX11_mean_0 di_13 (Nat.zero_lt_succ _) rfl
theorem dX11_mean_25 : decode cX11_mean 25 = .ok (.aload_n 0, 1) := dz1 (k := 25) (m := 1) dzc0_cX11_mean_0 di_0 (Nat.zero_lt_succ _) rfl
theorem dX11_mean_26 : decode cX11_mean 26 = .ok (.getfield 7, 3) := dz1 (k := 26) (m := 3) dzc0_cX11_mean_0 di_514 (Nat.zero_lt_succ _) rfl
theorem dX11_mean_29 : decode cX11_mean 29 = .ok (.iload_n 1, 1) := dz1 (k := 29) (m := 1) dzc0_cX11_mean_0 di_11 (Nat.zero_lt_succ _) rfl
theorem dX11_mean_30 : decode cX11_mean 30 = .ok (.iaload, 1) := dz1 (k := 30) (m := 1) dzc0_cX11_mean_0 di_30 (Nat.zero_lt_succ _) rfl
theorem dX11_mean_31 : decode cX11_mean 31 = .ok (.ifCond .ne 9, 3) := dz1 (k := 31) (m := 3) dzc0_cX11_mean_0 di_243 (Nat.zero_lt_succ _) rfl
set_option maxRecDepth 100000 in
theorem dzc0_cX11_mean_32 : DzLies cX11_mean (.mk ⟨[0x00, 0x09, 0x2a, 0x07, 0xb6, 0x00, 0x4f, 0xac, 0x09, 0x41, 0x03, 0x36, 0x04, 0x15, 0x04, 0x2a, 0xb4, 0x00, 0x07, 0x1b, 0x2e, 0xa2, 0x00, 0x19, 0x20, 0x2a, 0xb4, 0x00, 0x0d, 0x10, 0x28, 0x1b]⟩) 32 := dz_lies (m := 32) (Nat.zero_lt_succ _) rfl
theorem dX11_mean_34 : decode cX11_mean 34 = .ok (.aload_n 0, 1) := dz1 (k := 2) (m := 1) dzc0_cX11_mean_32 di_0 (Nat.zero_lt_succ _) rfl
theorem dX11_mean_35 : decode cX11_mean 35 = .ok (.iconst 4, 1) := dz1 (k := 3) (m := 1) dzc0_cX11_mean_32 di_33 (Nat.zero_lt_succ _) rfl
theorem dX11_mean_36 : decode cX11_mean 36 = .ok (.invokevirtual 79, 3) := dz1 (k := 4) (m := 3) dzc0_cX11_mean_32 di_526 (Nat.zero_lt_succ _) rfl
theorem dX11_mean_39 : decode cX11_mean 39 = .ok (.ireturn, 1) := dz1 (k := 7) (m := 1) dzc0_cX11_mean_32 di_13 (Nat.zero_lt_succ _) rfl
theorem dX11_mean_40 : decode cX11_mean 40 = .ok (.lconst 0, 1) := dz1 (k := 8) (m := 1) dzc0_cX11_mean_32 di_246 (Nat.zero_lt_succ _) rfl
theorem dX11_mean_41 : decode cX11_mean 41 = .ok (.lstore_n 2, 1) := dz1 (k := 9) (m := 1) dzc0_cX11_mean_32 di_472 (Nat.zero_lt_succ _) rfl
theorem dX11_mean_42 : decode cX11_mean 42 = .ok (.iconst 0, 1) := dz1 (k := 10) (m := 1) dzc0_cX11_mean_32 di_8 (Nat.zero_lt_succ _) rfl
theorem dX11_mean_43 : decode cX11_mean 43 = .ok (.istore 4, 2) := dz1 (k := 11) (m := 2) dzc0_cX11_mean_32 di_51 (Nat.zero_lt_succ _) rfl
theorem dX11_mean_45 : decode cX11_mean 45 = .ok (.iload 4, 2) := dz1 (k := 13) (m := 2) dzc0_cX11_mean_32 di_52 (Nat.zero_lt_succ _) rfl
theorem dX11_mean_47 : decode cX11_mean 47 = .ok (.aload_n 0, 1) := dz1 (k := 15) (m := 1) dzc0_cX11_mean_32 di_0 (Nat.zero_lt_succ _) rfl
theorem dX11_mean_48 : decode cX11_mean 48 = .ok (.getfield 7, 3) := dz1 (k := 16) (m := 3) dzc0_cX11_mean_32 di_514 (Nat.zero_lt_succ _) rfl
theorem dX11_mean_51 : decode cX11_mean 51 = .ok (.iload_n 1, 1) := dz1 (k := 19) (m := 1) dzc0_cX11_mean_32 di_11 (Nat.zero_lt_succ _) rfl
theorem dX11_mean_52 : decode cX11_mean 52 = .ok (.iaload, 1) := dz1 (k := 20) (m := 1) dzc0_cX11_mean_32 di_30 (Nat.zero_lt_succ _) rfl
theorem dX11_mean_53 : decode cX11_mean 53 = .ok (.if_icmp .ge 25, 3) := dz1 (k := 21) (m := 3) dzc0_cX11_mean_32 di_534 (Nat.zero_lt_succ _) rfl
theorem dX11_mean_56 : decode cX11_mean 56 = .ok (.lload_n 2, 1) := dz1 (k := 24) (m := 1) dzc0_cX11_mean_32 di_474 (Nat.zero_lt_succ _) rfl
theorem dX11_mean_57 : decode cX11_mean 57 = .ok (.aload_n 0, 1) := dz1 (k := 25) (m := 1) dzc0_cX11_mean_32 di_0 (Nat.zero_lt_succ _) rfl
theorem dX11_mean_58 : decode cX11_mean 58 = .ok (.getfield 13, 3) := dz1 (k := 26) (m := 3) dzc0_cX11_mean_32 di_524 (Nat.zero_lt_succ _) rfl
theorem dX11_mean_61 : decode cX11_mean 61 = .ok (.bipush 40, 2) := dz1 (k := 29) (m := 2) dzc0_cX11_mean_32 di_16 (Nat.zero_lt_succ _) rfl
theorem dX11_mean_63 : decode cX11_mean 63 = .ok (.iload_n 1, 1) := dz1 (k := 31) (m := 1) dzc0_cX11_mean_32 di_11 (Nat.zero_lt_succ _) rfl
set_option maxRecDepth 100000 in
theorem dzc0_cX11_mean_64 : DzLies cX11_mean (.mk ⟨[0x68, 0x15, 0x04, 0x60, 0x2e, 0x85, 0x61, 0x41, 0x84, 0x04, 0x01, 0xa7, 0xff, 0xe2, 0x2a, 0x20, 0x2a, 0xb4, 0x00, 0x07, 0x1b, 0x2e, 0x85, 0x6d, 0x88, 0xb6, 0x00, 0x57, 0xac]⟩) 64 := dz_lies (m := 29) (Nat.zero_lt_succ _) rfl
theorem dX11_mean_64 : decode cX11_mean 64 = .ok (.imul, 1) := dz1 (k := 0) (m := 1) dzc0_cX11_mean_64 di_113 (Nat.zero_lt_succ _) rfl
theorem dX11_mean_65 : decode cX11_mean 65 = .ok (.iload 4, 2) := dz1 (k := 1) (m := 2) dzc0_cX11_mean_64 di_52 (Nat.zero_lt_succ _) rfl
theorem dX11_mean_67 : decode cX11_mean 67 = .ok (.iadd, 1) := dz1 (k := 3) (m := 1) dzc0_cX11_mean_64 di_24 (Nat.zero_lt_succ _) rfl
theorem dX11_mean_68 : decode cX11_mean 68 = .ok (.iaload, 1) := dz1 (k := 4) (m := 1) dzc0_cX11_mean_64 di_30 (Nat.zero_lt_succ _) rfl
theorem dX11_mean_69 : decode cX11_mean 69 = .ok (.i2l, 1) := dz1 (k := 5) (m := 1) dzc0_cX11_mean_64 di_250 (Nat.zero_lt_succ _) rfl
theorem dX11_mean_70 : decode cX11_mean 70 = .ok (.ladd, 1) := dz1 (k := 6) (m := 1) dzc0_cX11_mean_64 di_251 (Nat.zero_lt_succ _) rfl
theorem dX11_mean_71 : decode cX11_mean 71 = .ok (.lstore_n 2, 1) := dz1 (k := 7) (m := 1) dzc0_cX11_mean_64 di_472 (Nat.zero_lt_succ _) rfl
theorem dX11_mean_72 : decode cX11_mean 72 = .ok (.iinc 4 1, 3) := dz1 (k := 8) (m := 3) dzc0_cX11_mean_64 di_63 (Nat.zero_lt_succ _) rfl
theorem dX11_mean_75 : decode cX11_mean 75 = .ok (.goto (-30), 3) := dz1 (k := 11) (m := 3) dzc0_cX11_mean_64 di_346 (Nat.zero_lt_succ _) rfl
theorem dX11_mean_78 : decode cX11_mean 78 = .ok (.aload_n 0, 1) := dz1 (k := 14) (m := 1) dzc0_cX11_mean_64 di_0 (Nat.zero_lt_succ _) rfl
theorem dX11_mean_79 : decode cX11_mean 79 = .ok (.lload_n 2, 1) := dz1 (k := 15) (m := 1) dzc0_cX11_mean_64 di_474 (Nat.zero_lt_succ _) rfl
theorem dX11_mean_80 : decode cX11_mean 80 = .ok (.aload_n 0, 1) := dz1 (k := 16) (m := 1) dzc0_cX11_mean_64 di_0 (Nat.zero_lt_succ _) rfl
theorem dX11_mean_81 : decode cX11_mean 81 = .ok (.getfield 7, 3) := dz1 (k := 17) (m := 3) dzc0_cX11_mean_64 di_514 (Nat.zero_lt_succ _) rfl
theorem dX11_mean_84 : decode cX11_mean 84 = .ok (.iload_n 1, 1) := dz1 (k := 20) (m := 1) dzc0_cX11_mean_64 di_11 (Nat.zero_lt_succ _) rfl
theorem dX11_mean_85 : decode cX11_mean 85 = .ok (.iaload, 1) := dz1 (k := 21) (m := 1) dzc0_cX11_mean_64 di_30 (Nat.zero_lt_succ _) rfl
theorem dX11_mean_86 : decode cX11_mean 86 = .ok (.i2l, 1) := dz1 (k := 22) (m := 1) dzc0_cX11_mean_64 di_250 (Nat.zero_lt_succ _) rfl
theorem dX11_mean_87 : decode cX11_mean 87 = .ok (.ldiv, 1) := dz1 (k := 23) (m := 1) dzc0_cX11_mean_64 di_254 (Nat.zero_lt_succ _) rfl
theorem dX11_mean_88 : decode cX11_mean 88 = .ok (.l2i, 1) := dz1 (k := 24) (m := 1) dzc0_cX11_mean_64 di_255 (Nat.zero_lt_succ _) rfl
theorem dX11_mean_89 : decode cX11_mean 89 = .ok (.invokevirtual 87, 3) := dz1 (k := 25) (m := 3) dzc0_cX11_mean_64 di_228 (Nat.zero_lt_succ _) rfl
theorem dX11_mean_92 : decode cX11_mean 92 = .ok (.ireturn, 1) := dz1 (k := 28) (m := 1) dzc0_cX11_mean_64 di_13 (Nat.zero_lt_succ _) rfl
set_option maxRecDepth 100000 in
theorem dzc0_cX11_text_0 : DzLies cX11_text (.mk ⟨[0x2a, 0x1b, 0xb6, 0x00, 0x5a, 0x99, 0x00, 0x09, 0x1c, 0x10, 0x3c, 0xa4, 0x00, 0x05, 0x02, 0xac, 0x1c, 0x9c, 0x00, 0x09, 0x2a, 0x08, 0xb6, 0x00, 0x4f, 0xac, 0x2a, 0xb4, 0x00, 0x13, 0x1b, 0x1c]⟩) 0 := dz_lies (m := 32) (Nat.zero_lt_succ _) rfl
theorem dX11_text_0 : decode cX11_text 0 = .ok (.aload_n 0, 1) := dz1 (k := 0) (m := 1) dzc0_cX11_text_0 di_0 (Nat.zero_lt_succ _) rfl
theorem dX11_text_1 : decode cX11_text 1 = .ok (.iload_n 1, 1) := dz1 (k := 1) (m := 1) dzc0_cX11_text_0 di_11 (Nat.zero_lt_succ _) rfl
theorem dX11_text_2 : decode cX11_text 2 = .ok (.invokevirtual 90, 3) := dz1 (k := 2) (m := 3) dzc0_cX11_text_0 di_535 (Nat.zero_lt_succ _) rfl
theorem dX11_text_5 : decode cX11_text 5 = .ok (.ifCond .eq 9, 3) := dz1 (k := 5) (m := 3) dzc0_cX11_text_0 di_229 (Nat.zero_lt_succ _) rfl
theorem dX11_text_8 : decode cX11_text 8 = .ok (.iload_n 2, 1) := dz1 (k := 8) (m := 1) dzc0_cX11_text_0 di_28 (Nat.zero_lt_succ _) rfl
theorem dX11_text_9 : decode cX11_text 9 = .ok (.bipush 60, 2) := dz1 (k := 9) (m := 2) dzc0_cX11_text_0 di_195 (Nat.zero_lt_succ _) rfl
theorem dX11_text_11 : decode cX11_text 11 = .ok (.if_icmp .le 5, 3) := dz1 (k := 11) (m := 3) dzc0_cX11_text_0 di_230 (Nat.zero_lt_succ _) rfl
theorem dX11_text_14 : decode cX11_text 14 = .ok (.iconst (-1), 1) := dz1 (k := 14) (m := 1) dzc0_cX11_text_0 di_65 (Nat.zero_lt_succ _) rfl
theorem dX11_text_15 : decode cX11_text 15 = .ok (.ireturn, 1) := dz1 (k := 15) (m := 1) dzc0_cX11_text_0 di_13 (Nat.zero_lt_succ _) rfl
theorem dX11_text_16 : decode cX11_text 16 = .ok (.iload_n 2, 1) := dz1 (k := 16) (m := 1) dzc0_cX11_text_0 di_28 (Nat.zero_lt_succ _) rfl
theorem dX11_text_17 : decode cX11_text 17 = .ok (.ifCond .ge 9, 3) := dz1 (k := 17) (m := 3) dzc0_cX11_text_0 di_231 (Nat.zero_lt_succ _) rfl
theorem dX11_text_20 : decode cX11_text 20 = .ok (.aload_n 0, 1) := dz1 (k := 20) (m := 1) dzc0_cX11_text_0 di_0 (Nat.zero_lt_succ _) rfl
theorem dX11_text_21 : decode cX11_text 21 = .ok (.iconst 5, 1) := dz1 (k := 21) (m := 1) dzc0_cX11_text_0 di_145 (Nat.zero_lt_succ _) rfl
theorem dX11_text_22 : decode cX11_text 22 = .ok (.invokevirtual 79, 3) := dz1 (k := 22) (m := 3) dzc0_cX11_text_0 di_526 (Nat.zero_lt_succ _) rfl
theorem dX11_text_25 : decode cX11_text 25 = .ok (.ireturn, 1) := dz1 (k := 25) (m := 1) dzc0_cX11_text_0 di_13 (Nat.zero_lt_succ _) rfl
theorem dX11_text_26 : decode cX11_text 26 = .ok (.aload_n 0, 1) := dz1 (k := 26) (m := 1) dzc0_cX11_text_0 di_0 (Nat.zero_lt_succ _) rfl
theorem dX11_text_27 : decode cX11_text 27 = .ok (.getfield 19, 3) := dz1 (k := 27) (m := 3) dzc0_cX11_text_0 di_515 (Nat.zero_lt_succ _) rfl
theorem dX11_text_30 : decode cX11_text 30 = .ok (.iload_n 1, 1) := dz1 (k := 30) (m := 1) dzc0_cX11_text_0 di_11 (Nat.zero_lt_succ _) rfl
theorem dX11_text_31 : decode cX11_text 31 = .ok (.iload_n 2, 1) := dz1 (k := 31) (m := 1) dzc0_cX11_text_0 di_28 (Nat.zero_lt_succ _) rfl
set_option maxRecDepth 100000 in
theorem dzc0_cX11_text_32 : DzLies cX11_text (.mk ⟨[0x4f, 0x03, 0x3e, 0x1d, 0x1c, 0xa2, 0x00, 0x16, 0x2a, 0xb4, 0x00, 0x16, 0x10, 0x3c, 0x1b, 0x68, 0x1d, 0x60, 0x10, 0x20, 0x54, 0x84, 0x03, 0x01, 0xa7, 0xff, 0xeb, 0x1c, 0xac]⟩) 32 := dz_lies (m := 29) (Nat.zero_lt_succ _) rfl
theorem dX11_text_32 : decode cX11_text 32 = .ok (.iastore, 1) := dz1 (k := 0) (m := 1) dzc0_cX11_text_32 di_22 (Nat.zero_lt_succ _) rfl
theorem dX11_text_33 : decode cX11_text 33 = .ok (.iconst 0, 1) := dz1 (k := 1) (m := 1) dzc0_cX11_text_32 di_8 (Nat.zero_lt_succ _) rfl
theorem dX11_text_34 : decode cX11_text 34 = .ok (.istore_n 3, 1) := dz1 (k := 2) (m := 1) dzc0_cX11_text_32 di_50 (Nat.zero_lt_succ _) rfl
theorem dX11_text_35 : decode cX11_text 35 = .ok (.iload_n 3, 1) := dz1 (k := 3) (m := 1) dzc0_cX11_text_32 di_3 (Nat.zero_lt_succ _) rfl
theorem dX11_text_36 : decode cX11_text 36 = .ok (.iload_n 2, 1) := dz1 (k := 4) (m := 1) dzc0_cX11_text_32 di_28 (Nat.zero_lt_succ _) rfl
theorem dX11_text_37 : decode cX11_text 37 = .ok (.if_icmp .ge 22, 3) := dz1 (k := 5) (m := 3) dzc0_cX11_text_32 di_536 (Nat.zero_lt_succ _) rfl
theorem dX11_text_40 : decode cX11_text 40 = .ok (.aload_n 0, 1) := dz1 (k := 8) (m := 1) dzc0_cX11_text_32 di_0 (Nat.zero_lt_succ _) rfl
theorem dX11_text_41 : decode cX11_text 41 = .ok (.getfield 22, 3) := dz1 (k := 9) (m := 3) dzc0_cX11_text_32 di_537 (Nat.zero_lt_succ _) rfl
theorem dX11_text_44 : decode cX11_text 44 = .ok (.bipush 60, 2) := dz1 (k := 12) (m := 2) dzc0_cX11_text_32 di_195 (Nat.zero_lt_succ _) rfl
theorem dX11_text_46 : decode cX11_text 46 = .ok (.iload_n 1, 1) := dz1 (k := 14) (m := 1) dzc0_cX11_text_32 di_11 (Nat.zero_lt_succ _) rfl
theorem dX11_text_47 : decode cX11_text 47 = .ok (.imul, 1) := dz1 (k := 15) (m := 1) dzc0_cX11_text_32 di_113 (Nat.zero_lt_succ _) rfl
theorem dX11_text_48 : decode cX11_text 48 = .ok (.iload_n 3, 1) := dz1 (k := 16) (m := 1) dzc0_cX11_text_32 di_3 (Nat.zero_lt_succ _) rfl
theorem dX11_text_49 : decode cX11_text 49 = .ok (.iadd, 1) := dz1 (k := 17) (m := 1) dzc0_cX11_text_32 di_24 (Nat.zero_lt_succ _) rfl
theorem dX11_text_50 : decode cX11_text 50 = .ok (.bipush 32, 2) := dz1 (k := 18) (m := 2) dzc0_cX11_text_32 di_92 (Nat.zero_lt_succ _) rfl
theorem dX11_text_52 : decode cX11_text 52 = .ok (.bastore, 1) := dz1 (k := 20) (m := 1) dzc0_cX11_text_32 di_191 (Nat.zero_lt_succ _) rfl
theorem dX11_text_53 : decode cX11_text 53 = .ok (.iinc 3 1, 3) := dz1 (k := 21) (m := 3) dzc0_cX11_text_32 di_94 (Nat.zero_lt_succ _) rfl
theorem dX11_text_56 : decode cX11_text 56 = .ok (.goto (-21), 3) := dz1 (k := 24) (m := 3) dzc0_cX11_text_32 di_538 (Nat.zero_lt_succ _) rfl
theorem dX11_text_59 : decode cX11_text 59 = .ok (.iload_n 2, 1) := dz1 (k := 27) (m := 1) dzc0_cX11_text_32 di_28 (Nat.zero_lt_succ _) rfl
theorem dX11_text_60 : decode cX11_text 60 = .ok (.ireturn, 1) := dz1 (k := 28) (m := 1) dzc0_cX11_text_32 di_13 (Nat.zero_lt_succ _) rfl
set_option maxRecDepth 100000 in
theorem dzc0_cX11_put_0 : DzLies cX11_put (.mk ⟨[0x2a, 0x1b, 0xb6, 0x00, 0x5a, 0x9a, 0x00, 0x05, 0x02, 0xac, 0x2a, 0xb4, 0x00, 0x13, 0x1b, 0x2e, 0x9c, 0x00, 0x09, 0x2a, 0x04, 0xb6, 0x00, 0x4f, 0xac, 0x1c, 0x85, 0x09, 0x2a, 0xb4, 0x00, 0x13]⟩) 0 := dz_lies (m := 32) (Nat.zero_lt_succ _) rfl
theorem dX11_put_0 : decode cX11_put 0 = .ok (.aload_n 0, 1) := dz1 (k := 0) (m := 1) dzc0_cX11_put_0 di_0 (Nat.zero_lt_succ _) rfl
theorem dX11_put_1 : decode cX11_put 1 = .ok (.iload_n 1, 1) := dz1 (k := 1) (m := 1) dzc0_cX11_put_0 di_11 (Nat.zero_lt_succ _) rfl
theorem dX11_put_2 : decode cX11_put 2 = .ok (.invokevirtual 90, 3) := dz1 (k := 2) (m := 3) dzc0_cX11_put_0 di_535 (Nat.zero_lt_succ _) rfl
theorem dX11_put_5 : decode cX11_put 5 = .ok (.ifCond .ne 5, 3) := dz1 (k := 5) (m := 3) dzc0_cX11_put_0 di_239 (Nat.zero_lt_succ _) rfl
theorem dX11_put_8 : decode cX11_put 8 = .ok (.iconst (-1), 1) := dz1 (k := 8) (m := 1) dzc0_cX11_put_0 di_65 (Nat.zero_lt_succ _) rfl
theorem dX11_put_9 : decode cX11_put 9 = .ok (.ireturn, 1) := dz1 (k := 9) (m := 1) dzc0_cX11_put_0 di_13 (Nat.zero_lt_succ _) rfl
theorem dX11_put_10 : decode cX11_put 10 = .ok (.aload_n 0, 1) := dz1 (k := 10) (m := 1) dzc0_cX11_put_0 di_0 (Nat.zero_lt_succ _) rfl
theorem dX11_put_11 : decode cX11_put 11 = .ok (.getfield 19, 3) := dz1 (k := 11) (m := 3) dzc0_cX11_put_0 di_515 (Nat.zero_lt_succ _) rfl
theorem dX11_put_14 : decode cX11_put 14 = .ok (.iload_n 1, 1) := dz1 (k := 14) (m := 1) dzc0_cX11_put_0 di_11 (Nat.zero_lt_succ _) rfl
theorem dX11_put_15 : decode cX11_put 15 = .ok (.iaload, 1) := dz1 (k := 15) (m := 1) dzc0_cX11_put_0 di_30 (Nat.zero_lt_succ _) rfl
theorem dX11_put_16 : decode cX11_put 16 = .ok (.ifCond .ge 9, 3) := dz1 (k := 16) (m := 3) dzc0_cX11_put_0 di_231 (Nat.zero_lt_succ _) rfl
theorem dX11_put_19 : decode cX11_put 19 = .ok (.aload_n 0, 1) := dz1 (k := 19) (m := 1) dzc0_cX11_put_0 di_0 (Nat.zero_lt_succ _) rfl
theorem dX11_put_20 : decode cX11_put 20 = .ok (.iconst 1, 1) := dz1 (k := 20) (m := 1) dzc0_cX11_put_0 di_10 (Nat.zero_lt_succ _) rfl
theorem dX11_put_21 : decode cX11_put 21 = .ok (.invokevirtual 79, 3) := dz1 (k := 21) (m := 3) dzc0_cX11_put_0 di_526 (Nat.zero_lt_succ _) rfl
theorem dX11_put_24 : decode cX11_put 24 = .ok (.ireturn, 1) := dz1 (k := 24) (m := 1) dzc0_cX11_put_0 di_13 (Nat.zero_lt_succ _) rfl
theorem dX11_put_25 : decode cX11_put 25 = .ok (.iload_n 2, 1) := dz1 (k := 25) (m := 1) dzc0_cX11_put_0 di_28 (Nat.zero_lt_succ _) rfl
theorem dX11_put_26 : decode cX11_put 26 = .ok (.i2l, 1) := dz1 (k := 26) (m := 1) dzc0_cX11_put_0 di_250 (Nat.zero_lt_succ _) rfl
theorem dX11_put_27 : decode cX11_put 27 = .ok (.lconst 0, 1) := dz1 (k := 27) (m := 1) dzc0_cX11_put_0 di_246 (Nat.zero_lt_succ _) rfl
theorem dX11_put_28 : decode cX11_put 28 = .ok (.aload_n 0, 1) := dz1 (k := 28) (m := 1) dzc0_cX11_put_0 di_0 (Nat.zero_lt_succ _) rfl
theorem dX11_put_29 : decode cX11_put 29 = .ok (.getfield 19, 3) := dz1 (k := 29) (m := 3) dzc0_cX11_put_0 di_515 (Nat.zero_lt_succ _) rfl
set_option maxRecDepth 100000 in
theorem dzc0_cX11_put_32 : DzLies cX11_put (.mk ⟨[0x1b, 0x2e, 0x04, 0x64, 0x85, 0xb8, 0x00, 0x45, 0x9a, 0x00, 0x09, 0x2a, 0x05, 0xb6, 0x00, 0x4f, 0xac, 0x2a, 0xb4, 0x00, 0x16, 0x10, 0x3c, 0x1b, 0x68, 0x1c, 0x60, 0x33, 0x36, 0x04, 0x2a, 0xb4, 0x00, 0x16]⟩) 32 := dz_lies (m := 34) (Nat.zero_lt_succ _) rfl
theorem dX11_put_32 : decode cX11_put 32 = .ok (.iload_n 1, 1) := dz1 (k := 0) (m := 1) dzc0_cX11_put_32 di_11 (Nat.zero_lt_succ _) rfl
theorem dX11_put_33 : decode cX11_put 33 = .ok (.iaload, 1) := dz1 (k := 1) (m := 1) dzc0_cX11_put_32 di_30 (Nat.zero_lt_succ _) rfl
theorem dX11_put_34 : decode cX11_put 34 = .ok (.iconst 1, 1) := dz1 (k := 2) (m := 1) dzc0_cX11_put_32 di_10 (Nat.zero_lt_succ _) rfl
theorem dX11_put_35 : decode cX11_put 35 = .ok (.isub, 1) := dz1 (k := 3) (m := 1) dzc0_cX11_put_32 di_14 (Nat.zero_lt_succ _) rfl
theorem dX11_put_36 : decode cX11_put 36 = .ok (.i2l, 1) := dz1 (k := 4) (m := 1) dzc0_cX11_put_32 di_250 (Nat.zero_lt_succ _) rfl
theorem dX11_put_37 : decode cX11_put 37 = .ok (.invokestatic 69, 3) := dz1 (k := 5) (m := 3) dzc0_cX11_put_32 di_522 (Nat.zero_lt_succ _) rfl
theorem dX11_put_40 : decode cX11_put 40 = .ok (.ifCond .ne 9, 3) := dz1 (k := 8) (m := 3) dzc0_cX11_put_32 di_243 (Nat.zero_lt_succ _) rfl
theorem dX11_put_43 : decode cX11_put 43 = .ok (.aload_n 0, 1) := dz1 (k := 11) (m := 1) dzc0_cX11_put_32 di_0 (Nat.zero_lt_succ _) rfl
theorem dX11_put_44 : decode cX11_put 44 = .ok (.iconst 2, 1) := dz1 (k := 12) (m := 1) dzc0_cX11_put_32 di_6 (Nat.zero_lt_succ _) rfl
theorem dX11_put_45 : decode cX11_put 45 = .ok (.invokevirtual 79, 3) := dz1 (k := 13) (m := 3) dzc0_cX11_put_32 di_526 (Nat.zero_lt_succ _) rfl
theorem dX11_put_48 : decode cX11_put 48 = .ok (.ireturn, 1) := dz1 (k := 16) (m := 1) dzc0_cX11_put_32 di_13 (Nat.zero_lt_succ _) rfl
theorem dX11_put_49 : decode cX11_put 49 = .ok (.aload_n 0, 1) := dz1 (k := 17) (m := 1) dzc0_cX11_put_32 di_0 (Nat.zero_lt_succ _) rfl
theorem dX11_put_50 : decode cX11_put 50 = .ok (.getfield 22, 3) := dz1 (k := 18) (m := 3) dzc0_cX11_put_32 di_537 (Nat.zero_lt_succ _) rfl
theorem dX11_put_53 : decode cX11_put 53 = .ok (.bipush 60, 2) := dz1 (k := 21) (m := 2) dzc0_cX11_put_32 di_195 (Nat.zero_lt_succ _) rfl
theorem dX11_put_55 : decode cX11_put 55 = .ok (.iload_n 1, 1) := dz1 (k := 23) (m := 1) dzc0_cX11_put_32 di_11 (Nat.zero_lt_succ _) rfl
theorem dX11_put_56 : decode cX11_put 56 = .ok (.imul, 1) := dz1 (k := 24) (m := 1) dzc0_cX11_put_32 di_113 (Nat.zero_lt_succ _) rfl
theorem dX11_put_57 : decode cX11_put 57 = .ok (.iload_n 2, 1) := dz1 (k := 25) (m := 1) dzc0_cX11_put_32 di_28 (Nat.zero_lt_succ _) rfl
theorem dX11_put_58 : decode cX11_put 58 = .ok (.iadd, 1) := dz1 (k := 26) (m := 1) dzc0_cX11_put_32 di_24 (Nat.zero_lt_succ _) rfl
theorem dX11_put_59 : decode cX11_put 59 = .ok (.baload, 1) := dz1 (k := 27) (m := 1) dzc0_cX11_put_32 di_91 (Nat.zero_lt_succ _) rfl
theorem dX11_put_60 : decode cX11_put 60 = .ok (.istore 4, 2) := dz1 (k := 28) (m := 2) dzc0_cX11_put_32 di_51 (Nat.zero_lt_succ _) rfl
theorem dX11_put_62 : decode cX11_put 62 = .ok (.aload_n 0, 1) := dz1 (k := 30) (m := 1) dzc0_cX11_put_32 di_0 (Nat.zero_lt_succ _) rfl
theorem dX11_put_63 : decode cX11_put 63 = .ok (.getfield 22, 3) := dz1 (k := 31) (m := 3) dzc0_cX11_put_32 di_537 (Nat.zero_lt_succ _) rfl
set_option maxRecDepth 100000 in
theorem dzc0_cX11_put_64 : DzLies cX11_put (.mk ⟨[0x00, 0x16, 0x10, 0x3c, 0x1b, 0x68, 0x1c, 0x60, 0x1d, 0x91, 0x54, 0x15, 0x04, 0x11, 0x03, 0xe8, 0x60, 0xac]⟩) 64 := dz_lies (m := 18) (Nat.zero_lt_succ _) rfl
theorem dX11_put_66 : decode cX11_put 66 = .ok (.bipush 60, 2) := dz1 (k := 2) (m := 2) dzc0_cX11_put_64 di_195 (Nat.zero_lt_succ _) rfl
theorem dX11_put_68 : decode cX11_put 68 = .ok (.iload_n 1, 1) := dz1 (k := 4) (m := 1) dzc0_cX11_put_64 di_11 (Nat.zero_lt_succ _) rfl
theorem dX11_put_69 : decode cX11_put 69 = .ok (.imul, 1) := dz1 (k := 5) (m := 1) dzc0_cX11_put_64 di_113 (Nat.zero_lt_succ _) rfl
theorem dX11_put_70 : decode cX11_put 70 = .ok (.iload_n 2, 1) := dz1 (k := 6) (m := 1) dzc0_cX11_put_64 di_28 (Nat.zero_lt_succ _) rfl
theorem dX11_put_71 : decode cX11_put 71 = .ok (.iadd, 1) := dz1 (k := 7) (m := 1) dzc0_cX11_put_64 di_24 (Nat.zero_lt_succ _) rfl
theorem dX11_put_72 : decode cX11_put 72 = .ok (.iload_n 3, 1) := dz1 (k := 8) (m := 1) dzc0_cX11_put_64 di_3 (Nat.zero_lt_succ _) rfl
theorem dX11_put_73 : decode cX11_put 73 = .ok (.i2b, 1) := dz1 (k := 9) (m := 1) dzc0_cX11_put_64 di_261 (Nat.zero_lt_succ _) rfl
theorem dX11_put_74 : decode cX11_put 74 = .ok (.bastore, 1) := dz1 (k := 10) (m := 1) dzc0_cX11_put_64 di_191 (Nat.zero_lt_succ _) rfl
theorem dX11_put_75 : decode cX11_put 75 = .ok (.iload 4, 2) := dz1 (k := 11) (m := 2) dzc0_cX11_put_64 di_52 (Nat.zero_lt_succ _) rfl
theorem dX11_put_77 : decode cX11_put 77 = .ok (.sipush 1000, 3) := dz1 (k := 13) (m := 3) dzc0_cX11_put_64 di_262 (Nat.zero_lt_succ _) rfl
theorem dX11_put_80 : decode cX11_put 80 = .ok (.iadd, 1) := dz1 (k := 16) (m := 1) dzc0_cX11_put_64 di_24 (Nat.zero_lt_succ _) rfl
theorem dX11_put_81 : decode cX11_put 81 = .ok (.ireturn, 1) := dz1 (k := 17) (m := 1) dzc0_cX11_put_64 di_13 (Nat.zero_lt_succ _) rfl
set_option maxRecDepth 100000 in
theorem dzc0_cX11_kindOf_0 : DzLies cX11_kindOf (.mk ⟨[0x1a, 0x10, 0x70, 0xa0, 0x00, 0x07, 0x03, 0xa7, 0x00, 0x36, 0x1a, 0x10, 0x77, 0xa0, 0x00, 0x07, 0x04, 0xa7, 0x00, 0x2c, 0x1a, 0x10, 0x64, 0xa0, 0x00, 0x07, 0x05, 0xa7, 0x00, 0x22, 0x1a, 0x10, 0x68]⟩) 0 := dz_lies (m := 33) (Nat.zero_lt_succ _) rfl
theorem dX11_kindOf_0 : decode cX11_kindOf 0 = .ok (.iload_n 0, 1) := dz1 (k := 0) (m := 1) dzc0_cX11_kindOf_0 di_109 (Nat.zero_lt_succ _) rfl
theorem dX11_kindOf_1 : decode cX11_kindOf 1 = .ok (.bipush 112, 2) := dz1 (k := 1) (m := 2) dzc0_cX11_kindOf_0 di_539 (Nat.zero_lt_succ _) rfl
theorem dX11_kindOf_3 : decode cX11_kindOf 3 = .ok (.if_icmp .ne 7, 3) := dz1 (k := 3) (m := 3) dzc0_cX11_kindOf_0 di_7 (Nat.zero_lt_succ _) rfl
theorem dX11_kindOf_6 : decode cX11_kindOf 6 = .ok (.iconst 0, 1) := dz1 (k := 6) (m := 1) dzc0_cX11_kindOf_0 di_8 (Nat.zero_lt_succ _) rfl
theorem dX11_kindOf_7 : decode cX11_kindOf 7 = .ok (.goto 54, 3) := dz1 (k := 7) (m := 3) dzc0_cX11_kindOf_0 di_540 (Nat.zero_lt_succ _) rfl
theorem dX11_kindOf_10 : decode cX11_kindOf 10 = .ok (.iload_n 0, 1) := dz1 (k := 10) (m := 1) dzc0_cX11_kindOf_0 di_109 (Nat.zero_lt_succ _) rfl
theorem dX11_kindOf_11 : decode cX11_kindOf 11 = .ok (.bipush 119, 2) := dz1 (k := 11) (m := 2) dzc0_cX11_kindOf_0 di_541 (Nat.zero_lt_succ _) rfl
theorem dX11_kindOf_13 : decode cX11_kindOf 13 = .ok (.if_icmp .ne 7, 3) := dz1 (k := 13) (m := 3) dzc0_cX11_kindOf_0 di_7 (Nat.zero_lt_succ _) rfl
theorem dX11_kindOf_16 : decode cX11_kindOf 16 = .ok (.iconst 1, 1) := dz1 (k := 16) (m := 1) dzc0_cX11_kindOf_0 di_10 (Nat.zero_lt_succ _) rfl
theorem dX11_kindOf_17 : decode cX11_kindOf 17 = .ok (.goto 44, 3) := dz1 (k := 17) (m := 3) dzc0_cX11_kindOf_0 di_542 (Nat.zero_lt_succ _) rfl
theorem dX11_kindOf_20 : decode cX11_kindOf 20 = .ok (.iload_n 0, 1) := dz1 (k := 20) (m := 1) dzc0_cX11_kindOf_0 di_109 (Nat.zero_lt_succ _) rfl
theorem dX11_kindOf_21 : decode cX11_kindOf 21 = .ok (.bipush 100, 2) := dz1 (k := 21) (m := 2) dzc0_cX11_kindOf_0 di_450 (Nat.zero_lt_succ _) rfl
theorem dX11_kindOf_23 : decode cX11_kindOf 23 = .ok (.if_icmp .ne 7, 3) := dz1 (k := 23) (m := 3) dzc0_cX11_kindOf_0 di_7 (Nat.zero_lt_succ _) rfl
theorem dX11_kindOf_26 : decode cX11_kindOf 26 = .ok (.iconst 2, 1) := dz1 (k := 26) (m := 1) dzc0_cX11_kindOf_0 di_6 (Nat.zero_lt_succ _) rfl
theorem dX11_kindOf_27 : decode cX11_kindOf 27 = .ok (.goto 34, 3) := dz1 (k := 27) (m := 3) dzc0_cX11_kindOf_0 di_543 (Nat.zero_lt_succ _) rfl
theorem dX11_kindOf_30 : decode cX11_kindOf 30 = .ok (.iload_n 0, 1) := dz1 (k := 30) (m := 1) dzc0_cX11_kindOf_0 di_109 (Nat.zero_lt_succ _) rfl
theorem dX11_kindOf_31 : decode cX11_kindOf 31 = .ok (.bipush 104, 2) := dz1 (k := 31) (m := 2) dzc0_cX11_kindOf_0 di_544 (Nat.zero_lt_succ _) rfl
set_option maxRecDepth 100000 in
theorem dzc0_cX11_kindOf_32 : DzLies cX11_kindOf (.mk ⟨[0x68, 0xa0, 0x00, 0x07, 0x06, 0xa7, 0x00, 0x18, 0x1a, 0x10, 0x6c, 0xa0, 0x00, 0x07, 0x07, 0xa7, 0x00, 0x0e, 0x1a, 0x10, 0x73, 0xa0, 0x00, 0x07, 0x08, 0xa7, 0x00, 0x04, 0x02, 0xac]⟩) 32 := dz_lies (m := 30) (Nat.zero_lt_succ _) rfl
theorem dX11_kindOf_33 : decode cX11_kindOf 33 = .ok (.if_icmp .ne 7, 3) := dz1 (k := 1) (m := 3) dzc0_cX11_kindOf_32 di_7 (Nat.zero_lt_succ _) rfl
theorem dX11_kindOf_36 : decode cX11_kindOf 36 = .ok (.iconst 3, 1) := dz1 (k := 4) (m := 1) dzc0_cX11_kindOf_32 di_4 (Nat.zero_lt_succ _) rfl
theorem dX11_kindOf_37 : decode cX11_kindOf 37 = .ok (.goto 24, 3) := dz1 (k := 5) (m := 3) dzc0_cX11_kindOf_32 di_432 (Nat.zero_lt_succ _) rfl
theorem dX11_kindOf_40 : decode cX11_kindOf 40 = .ok (.iload_n 0, 1) := dz1 (k := 8) (m := 1) dzc0_cX11_kindOf_32 di_109 (Nat.zero_lt_succ _) rfl
theorem dX11_kindOf_41 : decode cX11_kindOf 41 = .ok (.bipush 108, 2) := dz1 (k := 9) (m := 2) dzc0_cX11_kindOf_32 di_545 (Nat.zero_lt_succ _) rfl
theorem dX11_kindOf_43 : decode cX11_kindOf 43 = .ok (.if_icmp .ne 7, 3) := dz1 (k := 11) (m := 3) dzc0_cX11_kindOf_32 di_7 (Nat.zero_lt_succ _) rfl
theorem dX11_kindOf_46 : decode cX11_kindOf 46 = .ok (.iconst 4, 1) := dz1 (k := 14) (m := 1) dzc0_cX11_kindOf_32 di_33 (Nat.zero_lt_succ _) rfl
theorem dX11_kindOf_47 : decode cX11_kindOf 47 = .ok (.goto 14, 3) := dz1 (k := 15) (m := 3) dzc0_cX11_kindOf_32 di_477 (Nat.zero_lt_succ _) rfl
theorem dX11_kindOf_50 : decode cX11_kindOf 50 = .ok (.iload_n 0, 1) := dz1 (k := 18) (m := 1) dzc0_cX11_kindOf_32 di_109 (Nat.zero_lt_succ _) rfl
theorem dX11_kindOf_51 : decode cX11_kindOf 51 = .ok (.bipush 115, 2) := dz1 (k := 19) (m := 2) dzc0_cX11_kindOf_32 di_546 (Nat.zero_lt_succ _) rfl
theorem dX11_kindOf_53 : decode cX11_kindOf 53 = .ok (.if_icmp .ne 7, 3) := dz1 (k := 21) (m := 3) dzc0_cX11_kindOf_32 di_7 (Nat.zero_lt_succ _) rfl
theorem dX11_kindOf_56 : decode cX11_kindOf 56 = .ok (.iconst 5, 1) := dz1 (k := 24) (m := 1) dzc0_cX11_kindOf_32 di_145 (Nat.zero_lt_succ _) rfl
theorem dX11_kindOf_57 : decode cX11_kindOf 57 = .ok (.goto 4, 3) := dz1 (k := 25) (m := 3) dzc0_cX11_kindOf_32 di_49 (Nat.zero_lt_succ _) rfl
theorem dX11_kindOf_60 : decode cX11_kindOf 60 = .ok (.iconst (-1), 1) := dz1 (k := 28) (m := 1) dzc0_cX11_kindOf_32 di_65 (Nat.zero_lt_succ _) rfl
theorem dX11_kindOf_61 : decode cX11_kindOf 61 = .ok (.ireturn, 1) := dz1 (k := 29) (m := 1) dzc0_cX11_kindOf_32 di_13 (Nat.zero_lt_succ _) rfl
set_option maxRecDepth 100000 in
theorem dzc0_cX11_isFigure_0 : DzLies cX11_isFigure (.mk ⟨[0x2a, 0xb4, 0x00, 0x16, 0x10, 0x3c, 0x1b, 0x68, 0x1c, 0x60, 0x33, 0x85, 0x14, 0x00, 0x5d, 0x14, 0x00, 0x5f, 0xb8, 0x00, 0x45, 0xac]⟩) 0 := dz_lies (m := 22) (Nat.zero_lt_succ _) rfl
theorem dX11_isFigure_0 : decode cX11_isFigure 0 = .ok (.aload_n 0, 1) := dz1 (k := 0) (m := 1) dzc0_cX11_isFigure_0 di_0 (Nat.zero_lt_succ _) rfl
theorem dX11_isFigure_1 : decode cX11_isFigure 1 = .ok (.getfield 22, 3) := dz1 (k := 1) (m := 3) dzc0_cX11_isFigure_0 di_537 (Nat.zero_lt_succ _) rfl
theorem dX11_isFigure_4 : decode cX11_isFigure 4 = .ok (.bipush 60, 2) := dz1 (k := 4) (m := 2) dzc0_cX11_isFigure_0 di_195 (Nat.zero_lt_succ _) rfl
theorem dX11_isFigure_6 : decode cX11_isFigure 6 = .ok (.iload_n 1, 1) := dz1 (k := 6) (m := 1) dzc0_cX11_isFigure_0 di_11 (Nat.zero_lt_succ _) rfl
theorem dX11_isFigure_7 : decode cX11_isFigure 7 = .ok (.imul, 1) := dz1 (k := 7) (m := 1) dzc0_cX11_isFigure_0 di_113 (Nat.zero_lt_succ _) rfl
theorem dX11_isFigure_8 : decode cX11_isFigure 8 = .ok (.iload_n 2, 1) := dz1 (k := 8) (m := 1) dzc0_cX11_isFigure_0 di_28 (Nat.zero_lt_succ _) rfl
theorem dX11_isFigure_9 : decode cX11_isFigure 9 = .ok (.iadd, 1) := dz1 (k := 9) (m := 1) dzc0_cX11_isFigure_0 di_24 (Nat.zero_lt_succ _) rfl
theorem dX11_isFigure_10 : decode cX11_isFigure 10 = .ok (.baload, 1) := dz1 (k := 10) (m := 1) dzc0_cX11_isFigure_0 di_91 (Nat.zero_lt_succ _) rfl
theorem dX11_isFigure_11 : decode cX11_isFigure 11 = .ok (.i2l, 1) := dz1 (k := 11) (m := 1) dzc0_cX11_isFigure_0 di_250 (Nat.zero_lt_succ _) rfl
theorem dX11_isFigure_12 : decode cX11_isFigure 12 = .ok (.ldc2_w 93, 3) := dz1 (k := 12) (m := 3) dzc0_cX11_isFigure_0 di_547 (Nat.zero_lt_succ _) rfl
theorem dX11_isFigure_15 : decode cX11_isFigure 15 = .ok (.ldc2_w 95, 3) := dz1 (k := 15) (m := 3) dzc0_cX11_isFigure_0 di_548 (Nat.zero_lt_succ _) rfl
theorem dX11_isFigure_18 : decode cX11_isFigure 18 = .ok (.invokestatic 69, 3) := dz1 (k := 18) (m := 3) dzc0_cX11_isFigure_0 di_522 (Nat.zero_lt_succ _) rfl
theorem dX11_isFigure_21 : decode cX11_isFigure 21 = .ok (.ireturn, 1) := dz1 (k := 21) (m := 1) dzc0_cX11_isFigure_0 di_13 (Nat.zero_lt_succ _) rfl
set_option maxRecDepth 100000 in
theorem dzc0_cX11_isOn_0 : DzLies cX11_isOn (.mk ⟨[0x03, 0x36, 0x04, 0x03, 0x36, 0x05, 0x15, 0x05, 0x1c, 0xa2, 0x00, 0x25, 0x15, 0x04, 0x9a, 0x00, 0x13, 0x2a, 0xb4, 0x00, 0x23, 0x10, 0x06, 0x1b, 0x68, 0x15, 0x05, 0x60, 0x2e, 0x1d, 0xa0, 0x00, 0x07]⟩) 0 := dz_lies (m := 33) (Nat.zero_lt_succ _) rfl
theorem dX11_isOn_0 : decode cX11_isOn 0 = .ok (.iconst 0, 1) := dz1 (k := 0) (m := 1) dzc0_cX11_isOn_0 di_8 (Nat.zero_lt_succ _) rfl
theorem dX11_isOn_1 : decode cX11_isOn 1 = .ok (.istore 4, 2) := dz1 (k := 1) (m := 2) dzc0_cX11_isOn_0 di_51 (Nat.zero_lt_succ _) rfl
theorem dX11_isOn_3 : decode cX11_isOn 3 = .ok (.iconst 0, 1) := dz1 (k := 3) (m := 1) dzc0_cX11_isOn_0 di_8 (Nat.zero_lt_succ _) rfl
theorem dX11_isOn_4 : decode cX11_isOn 4 = .ok (.istore 5, 2) := dz1 (k := 4) (m := 2) dzc0_cX11_isOn_0 di_100 (Nat.zero_lt_succ _) rfl
theorem dX11_isOn_6 : decode cX11_isOn 6 = .ok (.iload 5, 2) := dz1 (k := 6) (m := 2) dzc0_cX11_isOn_0 di_101 (Nat.zero_lt_succ _) rfl
theorem dX11_isOn_8 : decode cX11_isOn 8 = .ok (.iload_n 2, 1) := dz1 (k := 8) (m := 1) dzc0_cX11_isOn_0 di_28 (Nat.zero_lt_succ _) rfl
theorem dX11_isOn_9 : decode cX11_isOn 9 = .ok (.if_icmp .ge 37, 3) := dz1 (k := 9) (m := 3) dzc0_cX11_isOn_0 di_549 (Nat.zero_lt_succ _) rfl
theorem dX11_isOn_12 : decode cX11_isOn 12 = .ok (.iload 4, 2) := dz1 (k := 12) (m := 2) dzc0_cX11_isOn_0 di_52 (Nat.zero_lt_succ _) rfl
theorem dX11_isOn_14 : decode cX11_isOn 14 = .ok (.ifCond .ne 19, 3) := dz1 (k := 14) (m := 3) dzc0_cX11_isOn_0 di_550 (Nat.zero_lt_succ _) rfl
theorem dX11_isOn_17 : decode cX11_isOn 17 = .ok (.aload_n 0, 1) := dz1 (k := 17) (m := 1) dzc0_cX11_isOn_0 di_0 (Nat.zero_lt_succ _) rfl
theorem dX11_isOn_18 : decode cX11_isOn 18 = .ok (.getfield 35, 3) := dz1 (k := 18) (m := 3) dzc0_cX11_isOn_0 di_551 (Nat.zero_lt_succ _) rfl
theorem dX11_isOn_21 : decode cX11_isOn 21 = .ok (.bipush 6, 2) := dz1 (k := 21) (m := 2) dzc0_cX11_isOn_0 di_86 (Nat.zero_lt_succ _) rfl
theorem dX11_isOn_23 : decode cX11_isOn 23 = .ok (.iload_n 1, 1) := dz1 (k := 23) (m := 1) dzc0_cX11_isOn_0 di_11 (Nat.zero_lt_succ _) rfl
theorem dX11_isOn_24 : decode cX11_isOn 24 = .ok (.imul, 1) := dz1 (k := 24) (m := 1) dzc0_cX11_isOn_0 di_113 (Nat.zero_lt_succ _) rfl
theorem dX11_isOn_25 : decode cX11_isOn 25 = .ok (.iload 5, 2) := dz1 (k := 25) (m := 2) dzc0_cX11_isOn_0 di_101 (Nat.zero_lt_succ _) rfl
theorem dX11_isOn_27 : decode cX11_isOn 27 = .ok (.iadd, 1) := dz1 (k := 27) (m := 1) dzc0_cX11_isOn_0 di_24 (Nat.zero_lt_succ _) rfl
theorem dX11_isOn_28 : decode cX11_isOn 28 = .ok (.iaload, 1) := dz1 (k := 28) (m := 1) dzc0_cX11_isOn_0 di_30 (Nat.zero_lt_succ _) rfl
theorem dX11_isOn_29 : decode cX11_isOn 29 = .ok (.iload_n 3, 1) := dz1 (k := 29) (m := 1) dzc0_cX11_isOn_0 di_3 (Nat.zero_lt_succ _) rfl
theorem dX11_isOn_30 : decode cX11_isOn 30 = .ok (.if_icmp .ne 7, 3) := dz1 (k := 30) (m := 3) dzc0_cX11_isOn_0 di_7 (Nat.zero_lt_succ _) rfl
set_option maxRecDepth 100000 in
theorem dzc0_cX11_isOn_32 : DzLies cX11_isOn (.mk ⟨[0x07, 0x04, 0xa7, 0x00, 0x04, 0x03, 0x36, 0x04, 0x84, 0x05, 0x01, 0xa7, 0xff, 0xdb, 0x15, 0x04, 0xac]⟩) 32 := dz_lies (m := 17) (Nat.zero_lt_succ _) rfl
theorem dX11_isOn_33 : decode cX11_isOn 33 = .ok (.iconst 1, 1) := dz1 (k := 1) (m := 1) dzc0_cX11_isOn_32 di_10 (Nat.zero_lt_succ _) rfl
theorem dX11_isOn_34 : decode cX11_isOn 34 = .ok (.goto 4, 3) := dz1 (k := 2) (m := 3) dzc0_cX11_isOn_32 di_49 (Nat.zero_lt_succ _) rfl
theorem dX11_isOn_37 : decode cX11_isOn 37 = .ok (.iconst 0, 1) := dz1 (k := 5) (m := 1) dzc0_cX11_isOn_32 di_8 (Nat.zero_lt_succ _) rfl
theorem dX11_isOn_38 : decode cX11_isOn 38 = .ok (.istore 4, 2) := dz1 (k := 6) (m := 2) dzc0_cX11_isOn_32 di_51 (Nat.zero_lt_succ _) rfl
theorem dX11_isOn_40 : decode cX11_isOn 40 = .ok (.iinc 5 1, 3) := dz1 (k := 8) (m := 3) dzc0_cX11_isOn_32 di_131 (Nat.zero_lt_succ _) rfl
theorem dX11_isOn_43 : decode cX11_isOn 43 = .ok (.goto (-37), 3) := dz1 (k := 11) (m := 3) dzc0_cX11_isOn_32 di_552 (Nat.zero_lt_succ _) rfl
theorem dX11_isOn_46 : decode cX11_isOn 46 = .ok (.iload 4, 2) := dz1 (k := 14) (m := 2) dzc0_cX11_isOn_32 di_52 (Nat.zero_lt_succ _) rfl
theorem dX11_isOn_48 : decode cX11_isOn 48 = .ok (.ireturn, 1) := dz1 (k := 16) (m := 1) dzc0_cX11_isOn_32 di_13 (Nat.zero_lt_succ _) rfl
set_option maxRecDepth 100000 in
theorem dzc0_cX11_numbers_0 : DzLies cX11_numbers (.mk ⟨[0x03, 0x36, 0x04, 0x15, 0x04, 0x10, 0x06, 0xa2, 0x00, 0x9a, 0x1d, 0x05, 0x15, 0x04, 0x68, 0x60, 0x36, 0x05, 0x03, 0x36, 0x06, 0x15, 0x06, 0x05, 0xa2, 0x00, 0x33, 0x15, 0x05, 0x15, 0x06, 0x60]⟩) 0 := dz_lies (m := 32) (Nat.zero_lt_succ _) rfl
theorem dX11_numbers_0 : decode cX11_numbers 0 = .ok (.iconst 0, 1) := dz1 (k := 0) (m := 1) dzc0_cX11_numbers_0 di_8 (Nat.zero_lt_succ _) rfl
theorem dX11_numbers_1 : decode cX11_numbers 1 = .ok (.istore 4, 2) := dz1 (k := 1) (m := 2) dzc0_cX11_numbers_0 di_51 (Nat.zero_lt_succ _) rfl
theorem dX11_numbers_3 : decode cX11_numbers 3 = .ok (.iload 4, 2) := dz1 (k := 3) (m := 2) dzc0_cX11_numbers_0 di_52 (Nat.zero_lt_succ _) rfl
theorem dX11_numbers_5 : decode cX11_numbers 5 = .ok (.bipush 6, 2) := dz1 (k := 5) (m := 2) dzc0_cX11_numbers_0 di_86 (Nat.zero_lt_succ _) rfl
theorem dX11_numbers_7 : decode cX11_numbers 7 = .ok (.if_icmp .ge 154, 3) := dz1 (k := 7) (m := 3) dzc0_cX11_numbers_0 di_553 (Nat.zero_lt_succ _) rfl
theorem dX11_numbers_10 : decode cX11_numbers 10 = .ok (.iload_n 3, 1) := dz1 (k := 10) (m := 1) dzc0_cX11_numbers_0 di_3 (Nat.zero_lt_succ _) rfl
theorem dX11_numbers_11 : decode cX11_numbers 11 = .ok (.iconst 2, 1) := dz1 (k := 11) (m := 1) dzc0_cX11_numbers_0 di_6 (Nat.zero_lt_succ _) rfl
theorem dX11_numbers_12 : decode cX11_numbers 12 = .ok (.iload 4, 2) := dz1 (k := 12) (m := 2) dzc0_cX11_numbers_0 di_52 (Nat.zero_lt_succ _) rfl
theorem dX11_numbers_14 : decode cX11_numbers 14 = .ok (.imul, 1) := dz1 (k := 14) (m := 1) dzc0_cX11_numbers_0 di_113 (Nat.zero_lt_succ _) rfl
theorem dX11_numbers_15 : decode cX11_numbers 15 = .ok (.iadd, 1) := dz1 (k := 15) (m := 1) dzc0_cX11_numbers_0 di_24 (Nat.zero_lt_succ _) rfl
theorem dX11_numbers_16 : decode cX11_numbers 16 = .ok (.istore 5, 2) := dz1 (k := 16) (m := 2) dzc0_cX11_numbers_0 di_100 (Nat.zero_lt_succ _) rfl
theorem dX11_numbers_18 : decode cX11_numbers 18 = .ok (.iconst 0, 1) := dz1 (k := 18) (m := 1) dzc0_cX11_numbers_0 di_8 (Nat.zero_lt_succ _) rfl
theorem dX11_numbers_19 : decode cX11_numbers 19 = .ok (.istore 6, 2) := dz1 (k := 19) (m := 2) dzc0_cX11_numbers_0 di_114 (Nat.zero_lt_succ _) rfl
theorem dX11_numbers_21 : decode cX11_numbers 21 = .ok (.iload 6, 2) := dz1 (k := 21) (m := 2) dzc0_cX11_numbers_0 di_115 (Nat.zero_lt_succ _) rfl
theorem dX11_numbers_23 : decode cX11_numbers 23 = .ok (.iconst 2, 1) := dz1 (k := 23) (m := 1) dzc0_cX11_numbers_0 di_6 (Nat.zero_lt_succ _) rfl
theorem dX11_numbers_24 : decode cX11_numbers 24 = .ok (.if_icmp .ge 51, 3) := dz1 (k := 24) (m := 3) dzc0_cX11_numbers_0 di_554 (Nat.zero_lt_succ _) rfl
theorem dX11_numbers_27 : decode cX11_numbers 27 = .ok (.iload 5, 2) := dz1 (k := 27) (m := 2) dzc0_cX11_numbers_0 di_101 (Nat.zero_lt_succ _) rfl
theorem dX11_numbers_29 : decode cX11_numbers 29 = .ok (.iload 6, 2) := dz1 (k := 29) (m := 2) dzc0_cX11_numbers_0 di_115 (Nat.zero_lt_succ _) rfl
theorem dX11_numbers_31 : decode cX11_numbers 31 = .ok (.iadd, 1) := dz1 (k := 31) (m := 1) dzc0_cX11_numbers_0 di_24 (Nat.zero_lt_succ _) rfl
set_option maxRecDepth 100000 in
theorem dzc0_cX11_numbers_32 : DzLies cX11_numbers (.mk ⟨[0x2a, 0xb4, 0x00, 0x13, 0x1b, 0x2e, 0xa2, 0x00, 0x10, 0x2a, 0x1b, 0x15, 0x05, 0x15, 0x06, 0x60, 0xb6, 0x00, 0x61, 0x9a, 0x00, 0x12, 0x15, 0x05, 0x15, 0x06, 0x60, 0x2a, 0xb4, 0x00, 0x13, 0x1b]⟩) 32 := dz_lies (m := 32) (Nat.zero_lt_succ _) rfl
theorem dX11_numbers_32 : decode cX11_numbers 32 = .ok (.aload_n 0, 1) := dz1 (k := 0) (m := 1) dzc0_cX11_numbers_32 di_0 (Nat.zero_lt_succ _) rfl
theorem dX11_numbers_33 : decode cX11_numbers 33 = .ok (.getfield 19, 3) := dz1 (k := 1) (m := 3) dzc0_cX11_numbers_32 di_515 (Nat.zero_lt_succ _) rfl
theorem dX11_numbers_36 : decode cX11_numbers 36 = .ok (.iload_n 1, 1) := dz1 (k := 4) (m := 1) dzc0_cX11_numbers_32 di_11 (Nat.zero_lt_succ _) rfl
theorem dX11_numbers_37 : decode cX11_numbers 37 = .ok (.iaload, 1) := dz1 (k := 5) (m := 1) dzc0_cX11_numbers_32 di_30 (Nat.zero_lt_succ _) rfl
theorem dX11_numbers_38 : decode cX11_numbers 38 = .ok (.if_icmp .ge 16, 3) := dz1 (k := 6) (m := 3) dzc0_cX11_numbers_32 di_513 (Nat.zero_lt_succ _) rfl
theorem dX11_numbers_41 : decode cX11_numbers 41 = .ok (.aload_n 0, 1) := dz1 (k := 9) (m := 1) dzc0_cX11_numbers_32 di_0 (Nat.zero_lt_succ _) rfl
theorem dX11_numbers_42 : decode cX11_numbers 42 = .ok (.iload_n 1, 1) := dz1 (k := 10) (m := 1) dzc0_cX11_numbers_32 di_11 (Nat.zero_lt_succ _) rfl
theorem dX11_numbers_43 : decode cX11_numbers 43 = .ok (.iload 5, 2) := dz1 (k := 11) (m := 2) dzc0_cX11_numbers_32 di_101 (Nat.zero_lt_succ _) rfl
theorem dX11_numbers_45 : decode cX11_numbers 45 = .ok (.iload 6, 2) := dz1 (k := 13) (m := 2) dzc0_cX11_numbers_32 di_115 (Nat.zero_lt_succ _) rfl
theorem dX11_numbers_47 : decode cX11_numbers 47 = .ok (.iadd, 1) := dz1 (k := 15) (m := 1) dzc0_cX11_numbers_32 di_24 (Nat.zero_lt_succ _) rfl
theorem dX11_numbers_48 : decode cX11_numbers 48 = .ok (.invokevirtual 97, 3) := dz1 (k := 16) (m := 3) dzc0_cX11_numbers_32 di_555 (Nat.zero_lt_succ _) rfl
theorem dX11_numbers_51 : decode cX11_numbers 51 = .ok (.ifCond .ne 18, 3) := dz1 (k := 19) (m := 3) dzc0_cX11_numbers_32 di_556 (Nat.zero_lt_succ _) rfl
theorem dX11_numbers_54 : decode cX11_numbers 54 = .ok (.iload 5, 2) := dz1 (k := 22) (m := 2) dzc0_cX11_numbers_32 di_101 (Nat.zero_lt_succ _) rfl
theorem dX11_numbers_56 : decode cX11_numbers 56 = .ok (.iload 6, 2) := dz1 (k := 24) (m := 2) dzc0_cX11_numbers_32 di_115 (Nat.zero_lt_succ _) rfl
theorem dX11_numbers_58 : decode cX11_numbers 58 = .ok (.iadd, 1) := dz1 (k := 26) (m := 1) dzc0_cX11_numbers_32 di_24 (Nat.zero_lt_succ _) rfl
theorem dX11_numbers_59 : decode cX11_numbers 59 = .ok (.aload_n 0, 1) := dz1 (k := 27) (m := 1) dzc0_cX11_numbers_32 di_0 (Nat.zero_lt_succ _) rfl
theorem dX11_numbers_60 : decode cX11_numbers 60 = .ok (.getfield 19, 3) := dz1 (k := 28) (m := 3) dzc0_cX11_numbers_32 di_515 (Nat.zero_lt_succ _) rfl
theorem dX11_numbers_63 : decode cX11_numbers 63 = .ok (.iload_n 1, 1) := dz1 (k := 31) (m := 1) dzc0_cX11_numbers_32 di_11 (Nat.zero_lt_succ _) rfl
set_option maxRecDepth 100000 in
theorem dzc0_cX11_numbers_64 : DzLies cX11_numbers (.mk ⟨[0x2e, 0xb8, 0x00, 0x65, 0xac, 0x84, 0x06, 0x01, 0xa7, 0xff, 0xcd, 0x10, 0x0a, 0x2a, 0xb4, 0x00, 0x16, 0x10, 0x3c, 0x1b, 0x68, 0x15, 0x05, 0x60, 0x33, 0x10, 0x30, 0x64, 0x68, 0x2a, 0xb4, 0x00, 0x16]⟩) 64 := dz_lies (m := 33) (Nat.zero_lt_succ _) rfl
theorem dX11_numbers_64 : decode cX11_numbers 64 = .ok (.iaload, 1) := dz1 (k := 0) (m := 1) dzc0_cX11_numbers_64 di_30 (Nat.zero_lt_succ _) rfl
theorem dX11_numbers_65 : decode cX11_numbers 65 = .ok (.invokestatic 101, 3) := dz1 (k := 1) (m := 3) dzc0_cX11_numbers_64 di_557 (Nat.zero_lt_succ _) rfl
theorem dX11_numbers_68 : decode cX11_numbers 68 = .ok (.ireturn, 1) := dz1 (k := 4) (m := 1) dzc0_cX11_numbers_64 di_13 (Nat.zero_lt_succ _) rfl
theorem dX11_numbers_69 : decode cX11_numbers 69 = .ok (.iinc 6 1, 3) := dz1 (k := 5) (m := 3) dzc0_cX11_numbers_64 di_252 (Nat.zero_lt_succ _) rfl
theorem dX11_numbers_72 : decode cX11_numbers 72 = .ok (.goto (-51), 3) := dz1 (k := 8) (m := 3) dzc0_cX11_numbers_64 di_558 (Nat.zero_lt_succ _) rfl
theorem dX11_numbers_75 : decode cX11_numbers 75 = .ok (.bipush 10, 2) := dz1 (k := 11) (m := 2) dzc0_cX11_numbers_64 di_73 (Nat.zero_lt_succ _) rfl
theorem dX11_numbers_77 : decode cX11_numbers 77 = .ok (.aload_n 0, 1) := dz1 (k := 13) (m := 1) dzc0_cX11_numbers_64 di_0 (Nat.zero_lt_succ _) rfl
theorem dX11_numbers_78 : decode cX11_numbers 78 = .ok (.getfield 22, 3) := dz1 (k := 14) (m := 3) dzc0_cX11_numbers_64 di_537 (Nat.zero_lt_succ _) rfl
theorem dX11_numbers_81 : decode cX11_numbers 81 = .ok (.bipush 60, 2) := dz1 (k := 17) (m := 2) dzc0_cX11_numbers_64 di_195 (Nat.zero_lt_succ _) rfl
theorem dX11_numbers_83 : decode cX11_numbers 83 = .ok (.iload_n 1, 1) := dz1 (k := 19) (m := 1) dzc0_cX11_numbers_64 di_11 (Nat.zero_lt_succ _) rfl
theorem dX11_numbers_84 : decode cX11_numbers 84 = .ok (.imul, 1) := dz1 (k := 20) (m := 1) dzc0_cX11_numbers_64 di_113 (Nat.zero_lt_succ _) rfl
theorem dX11_numbers_85 : decode cX11_numbers 85 = .ok (.iload 5, 2) := dz1 (k := 21) (m := 2) dzc0_cX11_numbers_64 di_101 (Nat.zero_lt_succ _) rfl
theorem dX11_numbers_87 : decode cX11_numbers 87 = .ok (.iadd, 1) := dz1 (k := 23) (m := 1) dzc0_cX11_numbers_64 di_24 (Nat.zero_lt_succ _) rfl
theorem dX11_numbers_88 : decode cX11_numbers 88 = .ok (.baload, 1) := dz1 (k := 24) (m := 1) dzc0_cX11_numbers_64 di_91 (Nat.zero_lt_succ _) rfl
theorem dX11_numbers_89 : decode cX11_numbers 89 = .ok (.bipush 48, 2) := dz1 (k := 25) (m := 2) dzc0_cX11_numbers_64 di_119 (Nat.zero_lt_succ _) rfl
theorem dX11_numbers_91 : decode cX11_numbers 91 = .ok (.isub, 1) := dz1 (k := 27) (m := 1) dzc0_cX11_numbers_64 di_14 (Nat.zero_lt_succ _) rfl
theorem dX11_numbers_92 : decode cX11_numbers 92 = .ok (.imul, 1) := dz1 (k := 28) (m := 1) dzc0_cX11_numbers_64 di_113 (Nat.zero_lt_succ _) rfl
theorem dX11_numbers_93 : decode cX11_numbers 93 = .ok (.aload_n 0, 1) := dz1 (k := 29) (m := 1) dzc0_cX11_numbers_64 di_0 (Nat.zero_lt_succ _) rfl
theorem dX11_numbers_94 : decode cX11_numbers 94 = .ok (.getfield 22, 3) := dz1 (k := 30) (m := 3) dzc0_cX11_numbers_64 di_537 (Nat.zero_lt_succ _) rfl
set_option maxRecDepth 100000 in
theorem dzc0_cX11_numbers_96 : DzLies cX11_numbers (.mk ⟨[0x16, 0x10, 0x3c, 0x1b, 0x68, 0x15, 0x05, 0x60, 0x04, 0x60, 0x33, 0x60, 0x10, 0x30, 0x64, 0x36, 0x06, 0x15, 0x06, 0x85, 0x0a, 0x14, 0x00, 0x69, 0xb8, 0x00, 0x45, 0x99, 0x00, 0x0f, 0x2a, 0x1c]⟩) 96 := dz_lies (m := 32) (Nat.zero_lt_succ _) rfl
theorem dX11_numbers_97 : decode cX11_numbers 97 = .ok (.bipush 60, 2) := dz1 (k := 1) (m := 2) dzc0_cX11_numbers_96 di_195 (Nat.zero_lt_succ _) rfl
theorem dX11_numbers_99 : decode cX11_numbers 99 = .ok (.iload_n 1, 1) := dz1 (k := 3) (m := 1) dzc0_cX11_numbers_96 di_11 (Nat.zero_lt_succ _) rfl
theorem dX11_numbers_100 : decode cX11_numbers 100 = .ok (.imul, 1) := dz1 (k := 4) (m := 1) dzc0_cX11_numbers_96 di_113 (Nat.zero_lt_succ _) rfl
theorem dX11_numbers_101 : decode cX11_numbers 101 = .ok (.iload 5, 2) := dz1 (k := 5) (m := 2) dzc0_cX11_numbers_96 di_101 (Nat.zero_lt_succ _) rfl
theorem dX11_numbers_103 : decode cX11_numbers 103 = .ok (.iadd, 1) := dz1 (k := 7) (m := 1) dzc0_cX11_numbers_96 di_24 (Nat.zero_lt_succ _) rfl
theorem dX11_numbers_104 : decode cX11_numbers 104 = .ok (.iconst 1, 1) := dz1 (k := 8) (m := 1) dzc0_cX11_numbers_96 di_10 (Nat.zero_lt_succ _) rfl
theorem dX11_numbers_105 : decode cX11_numbers 105 = .ok (.iadd, 1) := dz1 (k := 9) (m := 1) dzc0_cX11_numbers_96 di_24 (Nat.zero_lt_succ _) rfl
theorem dX11_numbers_106 : decode cX11_numbers 106 = .ok (.baload, 1) := dz1 (k := 10) (m := 1) dzc0_cX11_numbers_96 di_91 (Nat.zero_lt_succ _) rfl
theorem dX11_numbers_107 : decode cX11_numbers 107 = .ok (.iadd, 1) := dz1 (k := 11) (m := 1) dzc0_cX11_numbers_96 di_24 (Nat.zero_lt_succ _) rfl
theorem dX11_numbers_108 : decode cX11_numbers 108 = .ok (.bipush 48, 2) := dz1 (k := 12) (m := 2) dzc0_cX11_numbers_96 di_119 (Nat.zero_lt_succ _) rfl
theorem dX11_numbers_110 : decode cX11_numbers 110 = .ok (.isub, 1) := dz1 (k := 14) (m := 1) dzc0_cX11_numbers_96 di_14 (Nat.zero_lt_succ _) rfl
theorem dX11_numbers_111 : decode cX11_numbers 111 = .ok (.istore 6, 2) := dz1 (k := 15) (m := 2) dzc0_cX11_numbers_96 di_114 (Nat.zero_lt_succ _) rfl
theorem dX11_numbers_113 : decode cX11_numbers 113 = .ok (.iload 6, 2) := dz1 (k := 17) (m := 2) dzc0_cX11_numbers_96 di_115 (Nat.zero_lt_succ _) rfl
theorem dX11_numbers_115 : decode cX11_numbers 115 = .ok (.i2l, 1) := dz1 (k := 19) (m := 1) dzc0_cX11_numbers_96 di_250 (Nat.zero_lt_succ _) rfl
theorem dX11_numbers_116 : decode cX11_numbers 116 = .ok (.lconst 1, 1) := dz1 (k := 20) (m := 1) dzc0_cX11_numbers_96 di_217 (Nat.zero_lt_succ _) rfl
theorem dX11_numbers_117 : decode cX11_numbers 117 = .ok (.ldc2_w 105, 3) := dz1 (k := 21) (m := 3) dzc0_cX11_numbers_96 di_559 (Nat.zero_lt_succ _) rfl
theorem dX11_numbers_120 : decode cX11_numbers 120 = .ok (.invokestatic 69, 3) := dz1 (k := 24) (m := 3) dzc0_cX11_numbers_96 di_522 (Nat.zero_lt_succ _) rfl
theorem dX11_numbers_123 : decode cX11_numbers 123 = .ok (.ifCond .eq 15, 3) := dz1 (k := 27) (m := 3) dzc0_cX11_numbers_96 di_242 (Nat.zero_lt_succ _) rfl
theorem dX11_numbers_126 : decode cX11_numbers 126 = .ok (.aload_n 0, 1) := dz1 (k := 30) (m := 1) dzc0_cX11_numbers_96 di_0 (Nat.zero_lt_succ _) rfl
theorem dX11_numbers_127 : decode cX11_numbers 127 = .ok (.iload_n 2, 1) := dz1 (k := 31) (m := 1) dzc0_cX11_numbers_96 di_28 (Nat.zero_lt_succ _) rfl
set_option maxRecDepth 100000 in
theorem dzc0_cX11_numbers_128 : DzLies cX11_numbers (.mk ⟨[0x15, 0x04, 0x15, 0x06, 0xb6, 0x00, 0x6b, 0x99, 0x00, 0x06, 0x15, 0x05, 0xac, 0x2a, 0xb4, 0x00, 0x23, 0x10, 0x06, 0x1c, 0x68, 0x15, 0x04, 0x60, 0x15, 0x06, 0x4f, 0x84, 0x04, 0x01, 0xa7, 0xff, 0x65]⟩) 128 := dz_lies (m := 33) (Nat.zero_lt_succ _) rfl
theorem dX11_numbers_128 : decode cX11_numbers 128 = .ok (.iload 4, 2) := dz1 (k := 0) (m := 2) dzc0_cX11_numbers_128 di_52 (Nat.zero_lt_succ _) rfl
theorem dX11_numbers_130 : decode cX11_numbers 130 = .ok (.iload 6, 2) := dz1 (k := 2) (m := 2) dzc0_cX11_numbers_128 di_115 (Nat.zero_lt_succ _) rfl
theorem dX11_numbers_132 : decode cX11_numbers 132 = .ok (.invokevirtual 107, 3) := dz1 (k := 4) (m := 3) dzc0_cX11_numbers_128 di_560 (Nat.zero_lt_succ _) rfl
theorem dX11_numbers_135 : decode cX11_numbers 135 = .ok (.ifCond .eq 6, 3) := dz1 (k := 7) (m := 3) dzc0_cX11_numbers_128 di_171 (Nat.zero_lt_succ _) rfl
theorem dX11_numbers_138 : decode cX11_numbers 138 = .ok (.iload 5, 2) := dz1 (k := 10) (m := 2) dzc0_cX11_numbers_128 di_101 (Nat.zero_lt_succ _) rfl
theorem dX11_numbers_140 : decode cX11_numbers 140 = .ok (.ireturn, 1) := dz1 (k := 12) (m := 1) dzc0_cX11_numbers_128 di_13 (Nat.zero_lt_succ _) rfl
theorem dX11_numbers_141 : decode cX11_numbers 141 = .ok (.aload_n 0, 1) := dz1 (k := 13) (m := 1) dzc0_cX11_numbers_128 di_0 (Nat.zero_lt_succ _) rfl
theorem dX11_numbers_142 : decode cX11_numbers 142 = .ok (.getfield 35, 3) := dz1 (k := 14) (m := 3) dzc0_cX11_numbers_128 di_551 (Nat.zero_lt_succ _) rfl
theorem dX11_numbers_145 : decode cX11_numbers 145 = .ok (.bipush 6, 2) := dz1 (k := 17) (m := 2) dzc0_cX11_numbers_128 di_86 (Nat.zero_lt_succ _) rfl
theorem dX11_numbers_147 : decode cX11_numbers 147 = .ok (.iload_n 2, 1) := dz1 (k := 19) (m := 1) dzc0_cX11_numbers_128 di_28 (Nat.zero_lt_succ _) rfl
theorem dX11_numbers_148 : decode cX11_numbers 148 = .ok (.imul, 1) := dz1 (k := 20) (m := 1) dzc0_cX11_numbers_128 di_113 (Nat.zero_lt_succ _) rfl
theorem dX11_numbers_149 : decode cX11_numbers 149 = .ok (.iload 4, 2) := dz1 (k := 21) (m := 2) dzc0_cX11_numbers_128 di_52 (Nat.zero_lt_succ _) rfl
theorem dX11_numbers_151 : decode cX11_numbers 151 = .ok (.iadd, 1) := dz1 (k := 23) (m := 1) dzc0_cX11_numbers_128 di_24 (Nat.zero_lt_succ _) rfl
theorem dX11_numbers_152 : decode cX11_numbers 152 = .ok (.iload 6, 2) := dz1 (k := 24) (m := 2) dzc0_cX11_numbers_128 di_115 (Nat.zero_lt_succ _) rfl
theorem dX11_numbers_154 : decode cX11_numbers 154 = .ok (.iastore, 1) := dz1 (k := 26) (m := 1) dzc0_cX11_numbers_128 di_22 (Nat.zero_lt_succ _) rfl
theorem dX11_numbers_155 : decode cX11_numbers 155 = .ok (.iinc 4 1, 3) := dz1 (k := 27) (m := 3) dzc0_cX11_numbers_128 di_63 (Nat.zero_lt_succ _) rfl
theorem dX11_numbers_158 : decode cX11_numbers 158 = .ok (.goto (-155), 3) := dz1 (k := 30) (m := 3) dzc0_cX11_numbers_128 di_561 (Nat.zero_lt_succ _) rfl
set_option maxRecDepth 100000 in
theorem dzc0_cX11_numbers_160 : DzLies cX11_numbers (.mk ⟨[0x65, 0x10, 0xf7, 0xac]⟩) 160 := dz_lies (m := 4) (Nat.zero_lt_succ _) rfl
theorem dX11_numbers_161 : decode cX11_numbers 161 = .ok (.bipush (-9), 2) := dz1 (k := 1) (m := 2) dzc0_cX11_numbers_160 di_102 (Nat.zero_lt_succ _) rfl
theorem dX11_numbers_163 : decode cX11_numbers 163 = .ok (.ireturn, 1) := dz1 (k := 3) (m := 1) dzc0_cX11_numbers_160 di_13 (Nat.zero_lt_succ _) rfl
set_option maxRecDepth 100000 in
theorem dzc0_cX11_faultOf_0 : DzLies cX11_faultOf (.mk ⟨[0x2a, 0x03, 0xb5, 0x00, 0x6f, 0x03, 0x3d, 0x1c, 0x2a, 0xb4, 0x00, 0x13, 0x1b, 0x2e, 0xa2, 0x00, 0x68, 0x2a, 0xb4, 0x00, 0x16, 0x10, 0x3c, 0x1b, 0x68, 0x1c, 0x60, 0x33, 0x10, 0x20, 0xa0, 0x00, 0x09]⟩) 0 := dz_lies (m := 33) (Nat.zero_lt_succ _) rfl
theorem dX11_faultOf_0 : decode cX11_faultOf 0 = .ok (.aload_n 0, 1) := dz1 (k := 0) (m := 1) dzc0_cX11_faultOf_0 di_0 (Nat.zero_lt_succ _) rfl
theorem dX11_faultOf_1 : decode cX11_faultOf 1 = .ok (.iconst 0, 1) := dz1 (k := 1) (m := 1) dzc0_cX11_faultOf_0 di_8 (Nat.zero_lt_succ _) rfl
theorem dX11_faultOf_2 : decode cX11_faultOf 2 = .ok (.putfield 111, 3) := dz1 (k := 2) (m := 3) dzc0_cX11_faultOf_0 di_562 (Nat.zero_lt_succ _) rfl
theorem dX11_faultOf_5 : decode cX11_faultOf 5 = .ok (.iconst 0, 1) := dz1 (k := 5) (m := 1) dzc0_cX11_faultOf_0 di_8 (Nat.zero_lt_succ _) rfl
theorem dX11_faultOf_6 : decode cX11_faultOf 6 = .ok (.istore_n 2, 1) := dz1 (k := 6) (m := 1) dzc0_cX11_faultOf_0 di_27 (Nat.zero_lt_succ _) rfl
theorem dX11_faultOf_7 : decode cX11_faultOf 7 = .ok (.iload_n 2, 1) := dz1 (k := 7) (m := 1) dzc0_cX11_faultOf_0 di_28 (Nat.zero_lt_succ _) rfl
theorem dX11_faultOf_8 : decode cX11_faultOf 8 = .ok (.aload_n 0, 1) := dz1 (k := 8) (m := 1) dzc0_cX11_faultOf_0 di_0 (Nat.zero_lt_succ _) rfl
theorem dX11_faultOf_9 : decode cX11_faultOf 9 = .ok (.getfield 19, 3) := dz1 (k := 9) (m := 3) dzc0_cX11_faultOf_0 di_515 (Nat.zero_lt_succ _) rfl
theorem dX11_faultOf_12 : decode cX11_faultOf 12 = .ok (.iload_n 1, 1) := dz1 (k := 12) (m := 1) dzc0_cX11_faultOf_0 di_11 (Nat.zero_lt_succ _) rfl
theorem dX11_faultOf_13 : decode cX11_faultOf 13 = .ok (.iaload, 1) := dz1 (k := 13) (m := 1) dzc0_cX11_faultOf_0 di_30 (Nat.zero_lt_succ _) rfl
theorem dX11_faultOf_14 : decode cX11_faultOf 14 = .ok (.if_icmp .ge 104, 3) := dz1 (k := 14) (m := 3) dzc0_cX11_faultOf_0 di_563 (Nat.zero_lt_succ _) rfl
theorem dX11_faultOf_17 : decode cX11_faultOf 17 = .ok (.aload_n 0, 1) := dz1 (k := 17) (m := 1) dzc0_cX11_faultOf_0 di_0 (Nat.zero_lt_succ _) rfl
theorem dX11_faultOf_18 : decode cX11_faultOf 18 = .ok (.getfield 22, 3) := dz1 (k := 18) (m := 3) dzc0_cX11_faultOf_0 di_537 (Nat.zero_lt_succ _) rfl
theorem dX11_faultOf_21 : decode cX11_faultOf 21 = .ok (.bipush 60, 2) := dz1 (k := 21) (m := 2) dzc0_cX11_faultOf_0 di_195 (Nat.zero_lt_succ _) rfl
theorem dX11_faultOf_23 : decode cX11_faultOf 23 = .ok (.iload_n 1, 1) := dz1 (k := 23) (m := 1) dzc0_cX11_faultOf_0 di_11 (Nat.zero_lt_succ _) rfl
theorem dX11_faultOf_24 : decode cX11_faultOf 24 = .ok (.imul, 1) := dz1 (k := 24) (m := 1) dzc0_cX11_faultOf_0 di_113 (Nat.zero_lt_succ _) rfl
theorem dX11_faultOf_25 : decode cX11_faultOf 25 = .ok (.iload_n 2, 1) := dz1 (k := 25) (m := 1) dzc0_cX11_faultOf_0 di_28 (Nat.zero_lt_succ _) rfl
theorem dX11_faultOf_26 : decode cX11_faultOf 26 = .ok (.iadd, 1) := dz1 (k := 26) (m := 1) dzc0_cX11_faultOf_0 di_24 (Nat.zero_lt_succ _) rfl
theorem dX11_faultOf_27 : decode cX11_faultOf 27 = .ok (.baload, 1) := dz1 (k := 27) (m := 1) dzc0_cX11_faultOf_0 di_91 (Nat.zero_lt_succ _) rfl
theorem dX11_faultOf_28 : decode cX11_faultOf 28 = .ok (.bipush 32, 2) := dz1 (k := 28) (m := 2) dzc0_cX11_faultOf_0 di_92 (Nat.zero_lt_succ _) rfl
theorem dX11_faultOf_30 : decode cX11_faultOf 30 = .ok (.if_icmp .ne 9, 3) := dz1 (k := 30) (m := 3) dzc0_cX11_faultOf_0 di_93 (Nat.zero_lt_succ _) rfl
set_option maxRecDepth 100000 in
theorem dzc0_cX11_faultOf_32 : DzLies cX11_faultOf (.mk ⟨[0x09, 0x84, 0x02, 0x01, 0xa7, 0xff, 0xe3, 0x2a, 0xb4, 0x00, 0x16, 0x10, 0x3c, 0x1b, 0x68, 0x1c, 0x60, 0x33, 0xb8, 0x00, 0x72, 0x3e, 0x1d, 0x9b, 0x00, 0x0b, 0x2a, 0xb4, 0x00, 0x6f, 0x07, 0xa0, 0x00, 0x05]⟩) 32 := dz_lies (m := 34) (Nat.zero_lt_succ _) rfl
theorem dX11_faultOf_33 : decode cX11_faultOf 33 = .ok (.iinc 2 1, 3) := dz1 (k := 1) (m := 3) dzc0_cX11_faultOf_32 di_31 (Nat.zero_lt_succ _) rfl
theorem dX11_faultOf_36 : decode cX11_faultOf 36 = .ok (.goto (-29), 3) := dz1 (k := 4) (m := 3) dzc0_cX11_faultOf_32 di_564 (Nat.zero_lt_succ _) rfl
theorem dX11_faultOf_39 : decode cX11_faultOf 39 = .ok (.aload_n 0, 1) := dz1 (k := 7) (m := 1) dzc0_cX11_faultOf_32 di_0 (Nat.zero_lt_succ _) rfl
theorem dX11_faultOf_40 : decode cX11_faultOf 40 = .ok (.getfield 22, 3) := dz1 (k := 8) (m := 3) dzc0_cX11_faultOf_32 di_537 (Nat.zero_lt_succ _) rfl
theorem dX11_faultOf_43 : decode cX11_faultOf 43 = .ok (.bipush 60, 2) := dz1 (k := 11) (m := 2) dzc0_cX11_faultOf_32 di_195 (Nat.zero_lt_succ _) rfl
theorem dX11_faultOf_45 : decode cX11_faultOf 45 = .ok (.iload_n 1, 1) := dz1 (k := 13) (m := 1) dzc0_cX11_faultOf_32 di_11 (Nat.zero_lt_succ _) rfl
theorem dX11_faultOf_46 : decode cX11_faultOf 46 = .ok (.imul, 1) := dz1 (k := 14) (m := 1) dzc0_cX11_faultOf_32 di_113 (Nat.zero_lt_succ _) rfl
theorem dX11_faultOf_47 : decode cX11_faultOf 47 = .ok (.iload_n 2, 1) := dz1 (k := 15) (m := 1) dzc0_cX11_faultOf_32 di_28 (Nat.zero_lt_succ _) rfl
theorem dX11_faultOf_48 : decode cX11_faultOf 48 = .ok (.iadd, 1) := dz1 (k := 16) (m := 1) dzc0_cX11_faultOf_32 di_24 (Nat.zero_lt_succ _) rfl
theorem dX11_faultOf_49 : decode cX11_faultOf 49 = .ok (.baload, 1) := dz1 (k := 17) (m := 1) dzc0_cX11_faultOf_32 di_91 (Nat.zero_lt_succ _) rfl
theorem dX11_faultOf_50 : decode cX11_faultOf 50 = .ok (.invokestatic 114, 3) := dz1 (k := 18) (m := 3) dzc0_cX11_faultOf_32 di_565 (Nat.zero_lt_succ _) rfl
theorem dX11_faultOf_53 : decode cX11_faultOf 53 = .ok (.istore_n 3, 1) := dz1 (k := 21) (m := 1) dzc0_cX11_faultOf_32 di_50 (Nat.zero_lt_succ _) rfl
theorem dX11_faultOf_54 : decode cX11_faultOf 54 = .ok (.iload_n 3, 1) := dz1 (k := 22) (m := 1) dzc0_cX11_faultOf_32 di_3 (Nat.zero_lt_succ _) rfl
theorem dX11_faultOf_55 : decode cX11_faultOf 55 = .ok (.ifCond .lt 11, 3) := dz1 (k := 23) (m := 3) dzc0_cX11_faultOf_32 di_96 (Nat.zero_lt_succ _) rfl
theorem dX11_faultOf_58 : decode cX11_faultOf 58 = .ok (.aload_n 0, 1) := dz1 (k := 26) (m := 1) dzc0_cX11_faultOf_32 di_0 (Nat.zero_lt_succ _) rfl
theorem dX11_faultOf_59 : decode cX11_faultOf 59 = .ok (.getfield 111, 3) := dz1 (k := 27) (m := 3) dzc0_cX11_faultOf_32 di_566 (Nat.zero_lt_succ _) rfl
theorem dX11_faultOf_62 : decode cX11_faultOf 62 = .ok (.iconst 4, 1) := dz1 (k := 30) (m := 1) dzc0_cX11_faultOf_32 di_33 (Nat.zero_lt_succ _) rfl
theorem dX11_faultOf_63 : decode cX11_faultOf 63 = .ok (.if_icmp .ne 5, 3) := dz1 (k := 31) (m := 3) dzc0_cX11_faultOf_32 di_110 (Nat.zero_lt_succ _) rfl
set_option maxRecDepth 100000 in
theorem dzc0_cX11_faultOf_64 : DzLies cX11_faultOf (.mk ⟨[0x00, 0x05, 0x1c, 0xac, 0x2a, 0x1b, 0x2a, 0xb4, 0x00, 0x6f, 0x1c, 0x04, 0x60, 0xb6, 0x00, 0x75, 0x36, 0x04, 0x15, 0x04, 0x10, 0xf7, 0x9f, 0x00, 0x06, 0x15, 0x04, 0xac, 0x2a, 0xb4, 0x00, 0x20]⟩) 64 := dz_lies (m := 32) (Nat.zero_lt_succ _) rfl
theorem dX11_faultOf_66 : decode cX11_faultOf 66 = .ok (.iload_n 2, 1) := dz1 (k := 2) (m := 1) dzc0_cX11_faultOf_64 di_28 (Nat.zero_lt_succ _) rfl
theorem dX11_faultOf_67 : decode cX11_faultOf 67 = .ok (.ireturn, 1) := dz1 (k := 3) (m := 1) dzc0_cX11_faultOf_64 di_13 (Nat.zero_lt_succ _) rfl
theorem dX11_faultOf_68 : decode cX11_faultOf 68 = .ok (.aload_n 0, 1) := dz1 (k := 4) (m := 1) dzc0_cX11_faultOf_64 di_0 (Nat.zero_lt_succ _) rfl
theorem dX11_faultOf_69 : decode cX11_faultOf 69 = .ok (.iload_n 1, 1) := dz1 (k := 5) (m := 1) dzc0_cX11_faultOf_64 di_11 (Nat.zero_lt_succ _) rfl
theorem dX11_faultOf_70 : decode cX11_faultOf 70 = .ok (.aload_n 0, 1) := dz1 (k := 6) (m := 1) dzc0_cX11_faultOf_64 di_0 (Nat.zero_lt_succ _) rfl
theorem dX11_faultOf_71 : decode cX11_faultOf 71 = .ok (.getfield 111, 3) := dz1 (k := 7) (m := 3) dzc0_cX11_faultOf_64 di_566 (Nat.zero_lt_succ _) rfl
theorem dX11_faultOf_74 : decode cX11_faultOf 74 = .ok (.iload_n 2, 1) := dz1 (k := 10) (m := 1) dzc0_cX11_faultOf_64 di_28 (Nat.zero_lt_succ _) rfl
theorem dX11_faultOf_75 : decode cX11_faultOf 75 = .ok (.iconst 1, 1) := dz1 (k := 11) (m := 1) dzc0_cX11_faultOf_64 di_10 (Nat.zero_lt_succ _) rfl
theorem dX11_faultOf_76 : decode cX11_faultOf 76 = .ok (.iadd, 1) := dz1 (k := 12) (m := 1) dzc0_cX11_faultOf_64 di_24 (Nat.zero_lt_succ _) rfl
theorem dX11_faultOf_77 : decode cX11_faultOf 77 = .ok (.invokevirtual 117, 3) := dz1 (k := 13) (m := 3) dzc0_cX11_faultOf_64 di_567 (Nat.zero_lt_succ _) rfl
theorem dX11_faultOf_80 : decode cX11_faultOf 80 = .ok (.istore 4, 2) := dz1 (k := 16) (m := 2) dzc0_cX11_faultOf_64 di_51 (Nat.zero_lt_succ _) rfl
theorem dX11_faultOf_82 : decode cX11_faultOf 82 = .ok (.iload 4, 2) := dz1 (k := 18) (m := 2) dzc0_cX11_faultOf_64 di_52 (Nat.zero_lt_succ _) rfl
theorem dX11_faultOf_84 : decode cX11_faultOf 84 = .ok (.bipush (-9), 2) := dz1 (k := 20) (m := 2) dzc0_cX11_faultOf_64 di_102 (Nat.zero_lt_succ _) rfl
theorem dX11_faultOf_86 : decode cX11_faultOf 86 = .ok (.if_icmp .eq 6, 3) := dz1 (k := 22) (m := 3) dzc0_cX11_faultOf_64 di_103 (Nat.zero_lt_succ _) rfl
theorem dX11_faultOf_89 : decode cX11_faultOf 89 = .ok (.iload 4, 2) := dz1 (k := 25) (m := 2) dzc0_cX11_faultOf_64 di_52 (Nat.zero_lt_succ _) rfl
theorem dX11_faultOf_91 : decode cX11_faultOf 91 = .ok (.ireturn, 1) := dz1 (k := 27) (m := 1) dzc0_cX11_faultOf_64 di_13 (Nat.zero_lt_succ _) rfl
theorem dX11_faultOf_92 : decode cX11_faultOf 92 = .ok (.aload_n 0, 1) := dz1 (k := 28) (m := 1) dzc0_cX11_faultOf_64 di_0 (Nat.zero_lt_succ _) rfl
theorem dX11_faultOf_93 : decode cX11_faultOf 93 = .ok (.getfield 32, 3) := dz1 (k := 29) (m := 3) dzc0_cX11_faultOf_64 di_568 (Nat.zero_lt_succ _) rfl
set_option maxRecDepth 100000 in
theorem dzc0_cX11_faultOf_96 : DzLies cX11_faultOf (.mk ⟨[0x2a, 0xb4, 0x00, 0x6f, 0x1d, 0x4f, 0x2a, 0x59, 0xb4, 0x00, 0x6f, 0x04, 0x60, 0xb5, 0x00, 0x6f, 0x84, 0x02, 0x0d, 0xa7, 0xff, 0x94, 0x2a, 0xb4, 0x00, 0x6f, 0x9a, 0x00, 0x0c, 0x2a, 0xb4, 0x00, 0x13]⟩) 96 := dz_lies (m := 33) (Nat.zero_lt_succ _) rfl
theorem dX11_faultOf_96 : decode cX11_faultOf 96 = .ok (.aload_n 0, 1) := dz1 (k := 0) (m := 1) dzc0_cX11_faultOf_96 di_0 (Nat.zero_lt_succ _) rfl
theorem dX11_faultOf_97 : decode cX11_faultOf 97 = .ok (.getfield 111, 3) := dz1 (k := 1) (m := 3) dzc0_cX11_faultOf_96 di_566 (Nat.zero_lt_succ _) rfl
theorem dX11_faultOf_100 : decode cX11_faultOf 100 = .ok (.iload_n 3, 1) := dz1 (k := 4) (m := 1) dzc0_cX11_faultOf_96 di_3 (Nat.zero_lt_succ _) rfl
theorem dX11_faultOf_101 : decode cX11_faultOf 101 = .ok (.iastore, 1) := dz1 (k := 5) (m := 1) dzc0_cX11_faultOf_96 di_22 (Nat.zero_lt_succ _) rfl
theorem dX11_faultOf_102 : decode cX11_faultOf 102 = .ok (.aload_n 0, 1) := dz1 (k := 6) (m := 1) dzc0_cX11_faultOf_96 di_0 (Nat.zero_lt_succ _) rfl
theorem dX11_faultOf_103 : decode cX11_faultOf 103 = .ok (.dup, 1) := dz1 (k := 7) (m := 1) dzc0_cX11_faultOf_96 di_23 (Nat.zero_lt_succ _) rfl
theorem dX11_faultOf_104 : decode cX11_faultOf 104 = .ok (.getfield 111, 3) := dz1 (k := 8) (m := 3) dzc0_cX11_faultOf_96 di_566 (Nat.zero_lt_succ _) rfl
theorem dX11_faultOf_107 : decode cX11_faultOf 107 = .ok (.iconst 1, 1) := dz1 (k := 11) (m := 1) dzc0_cX11_faultOf_96 di_10 (Nat.zero_lt_succ _) rfl
theorem dX11_faultOf_108 : decode cX11_faultOf 108 = .ok (.iadd, 1) := dz1 (k := 12) (m := 1) dzc0_cX11_faultOf_96 di_24 (Nat.zero_lt_succ _) rfl
theorem dX11_faultOf_109 : decode cX11_faultOf 109 = .ok (.putfield 111, 3) := dz1 (k := 13) (m := 3) dzc0_cX11_faultOf_96 di_562 (Nat.zero_lt_succ _) rfl
theorem dX11_faultOf_112 : decode cX11_faultOf 112 = .ok (.iinc 2 13, 3) := dz1 (k := 16) (m := 3) dzc0_cX11_faultOf_96 di_569 (Nat.zero_lt_succ _) rfl
theorem dX11_faultOf_115 : decode cX11_faultOf 115 = .ok (.goto (-108), 3) := dz1 (k := 19) (m := 3) dzc0_cX11_faultOf_96 di_465 (Nat.zero_lt_succ _) rfl
theorem dX11_faultOf_118 : decode cX11_faultOf 118 = .ok (.aload_n 0, 1) := dz1 (k := 22) (m := 1) dzc0_cX11_faultOf_96 di_0 (Nat.zero_lt_succ _) rfl
theorem dX11_faultOf_119 : decode cX11_faultOf 119 = .ok (.getfield 111, 3) := dz1 (k := 23) (m := 3) dzc0_cX11_faultOf_96 di_566 (Nat.zero_lt_succ _) rfl
theorem dX11_faultOf_122 : decode cX11_faultOf 122 = .ok (.ifCond .ne 12, 3) := dz1 (k := 26) (m := 3) dzc0_cX11_faultOf_96 di_570 (Nat.zero_lt_succ _) rfl
theorem dX11_faultOf_125 : decode cX11_faultOf 125 = .ok (.aload_n 0, 1) := dz1 (k := 29) (m := 1) dzc0_cX11_faultOf_96 di_0 (Nat.zero_lt_succ _) rfl
theorem dX11_faultOf_126 : decode cX11_faultOf 126 = .ok (.getfield 19, 3) := dz1 (k := 30) (m := 3) dzc0_cX11_faultOf_96 di_515 (Nat.zero_lt_succ _) rfl
set_option maxRecDepth 100000 in
theorem dzc0_cX11_faultOf_128 : DzLies cX11_faultOf (.mk ⟨[0x13, 0x1b, 0x2e, 0xa7, 0x00, 0x05, 0x10, 0xf7, 0xac]⟩) 128 := dz_lies (m := 9) (Nat.zero_lt_succ _) rfl
theorem dX11_faultOf_129 : decode cX11_faultOf 129 = .ok (.iload_n 1, 1) := dz1 (k := 1) (m := 1) dzc0_cX11_faultOf_128 di_11 (Nat.zero_lt_succ _) rfl
theorem dX11_faultOf_130 : decode cX11_faultOf 130 = .ok (.iaload, 1) := dz1 (k := 2) (m := 1) dzc0_cX11_faultOf_128 di_30 (Nat.zero_lt_succ _) rfl
theorem dX11_faultOf_131 : decode cX11_faultOf 131 = .ok (.goto 5, 3) := dz1 (k := 3) (m := 3) dzc0_cX11_faultOf_128 di_106 (Nat.zero_lt_succ _) rfl
theorem dX11_faultOf_134 : decode cX11_faultOf 134 = .ok (.bipush (-9), 2) := dz1 (k := 6) (m := 2) dzc0_cX11_faultOf_128 di_102 (Nat.zero_lt_succ _) rfl
theorem dX11_faultOf_136 : decode cX11_faultOf 136 = .ok (.ireturn, 1) := dz1 (k := 8) (m := 1) dzc0_cX11_faultOf_128 di_13 (Nat.zero_lt_succ _) rfl
set_option maxRecDepth 100000 in
theorem dzc0_cX11_fault_0 : DzLies cX11_fault (.mk ⟨[0x2a, 0x1b, 0xb6, 0x00, 0x5a, 0x9a, 0x00, 0x05, 0x02, 0xac, 0x2a, 0xb4, 0x00, 0x13, 0x1b, 0x2e, 0x9c, 0x00, 0x0b, 0x2a, 0x04, 0xb6, 0x00, 0x4f, 0xa7, 0x00, 0x08, 0x2a, 0x1b, 0xb6, 0x00, 0x79]⟩) 0 := dz_lies (m := 32) (Nat.zero_lt_succ _) rfl
theorem dX11_fault_0 : decode cX11_fault 0 = .ok (.aload_n 0, 1) := dz1 (k := 0) (m := 1) dzc0_cX11_fault_0 di_0 (Nat.zero_lt_succ _) rfl
theorem dX11_fault_1 : decode cX11_fault 1 = .ok (.iload_n 1, 1) := dz1 (k := 1) (m := 1) dzc0_cX11_fault_0 di_11 (Nat.zero_lt_succ _) rfl
theorem dX11_fault_2 : decode cX11_fault 2 = .ok (.invokevirtual 90, 3) := dz1 (k := 2) (m := 3) dzc0_cX11_fault_0 di_535 (Nat.zero_lt_succ _) rfl
theorem dX11_fault_5 : decode cX11_fault 5 = .ok (.ifCond .ne 5, 3) := dz1 (k := 5) (m := 3) dzc0_cX11_fault_0 di_239 (Nat.zero_lt_succ _) rfl
theorem dX11_fault_8 : decode cX11_fault 8 = .ok (.iconst (-1), 1) := dz1 (k := 8) (m := 1) dzc0_cX11_fault_0 di_65 (Nat.zero_lt_succ _) rfl
theorem dX11_fault_9 : decode cX11_fault 9 = .ok (.ireturn, 1) := dz1 (k := 9) (m := 1) dzc0_cX11_fault_0 di_13 (Nat.zero_lt_succ _) rfl
theorem dX11_fault_10 : decode cX11_fault 10 = .ok (.aload_n 0, 1) := dz1 (k := 10) (m := 1) dzc0_cX11_fault_0 di_0 (Nat.zero_lt_succ _) rfl
theorem dX11_fault_11 : decode cX11_fault 11 = .ok (.getfield 19, 3) := dz1 (k := 11) (m := 3) dzc0_cX11_fault_0 di_515 (Nat.zero_lt_succ _) rfl
theorem dX11_fault_14 : decode cX11_fault 14 = .ok (.iload_n 1, 1) := dz1 (k := 14) (m := 1) dzc0_cX11_fault_0 di_11 (Nat.zero_lt_succ _) rfl
theorem dX11_fault_15 : decode cX11_fault 15 = .ok (.iaload, 1) := dz1 (k := 15) (m := 1) dzc0_cX11_fault_0 di_30 (Nat.zero_lt_succ _) rfl
theorem dX11_fault_16 : decode cX11_fault 16 = .ok (.ifCond .ge 11, 3) := dz1 (k := 16) (m := 3) dzc0_cX11_fault_0 di_414 (Nat.zero_lt_succ _) rfl
theorem dX11_fault_19 : decode cX11_fault 19 = .ok (.aload_n 0, 1) := dz1 (k := 19) (m := 1) dzc0_cX11_fault_0 di_0 (Nat.zero_lt_succ _) rfl
theorem dX11_fault_20 : decode cX11_fault 20 = .ok (.iconst 1, 1) := dz1 (k := 20) (m := 1) dzc0_cX11_fault_0 di_10 (Nat.zero_lt_succ _) rfl
theorem dX11_fault_21 : decode cX11_fault 21 = .ok (.invokevirtual 79, 3) := dz1 (k := 21) (m := 3) dzc0_cX11_fault_0 di_526 (Nat.zero_lt_succ _) rfl
theorem dX11_fault_24 : decode cX11_fault 24 = .ok (.goto 8, 3) := dz1 (k := 24) (m := 3) dzc0_cX11_fault_0 di_528 (Nat.zero_lt_succ _) rfl
theorem dX11_fault_27 : decode cX11_fault 27 = .ok (.aload_n 0, 1) := dz1 (k := 27) (m := 1) dzc0_cX11_fault_0 di_0 (Nat.zero_lt_succ _) rfl
theorem dX11_fault_28 : decode cX11_fault 28 = .ok (.iload_n 1, 1) := dz1 (k := 28) (m := 1) dzc0_cX11_fault_0 di_11 (Nat.zero_lt_succ _) rfl
theorem dX11_fault_29 : decode cX11_fault 29 = .ok (.invokevirtual 121, 3) := dz1 (k := 29) (m := 3) dzc0_cX11_fault_0 di_258 (Nat.zero_lt_succ _) rfl
set_option maxRecDepth 100000 in
theorem dzc0_cX11_fault_32 : DzLies cX11_fault (.mk ⟨[0xac]⟩) 32 := dz_lies (m := 1) (Nat.zero_lt_succ _) rfl
theorem dX11_fault_32 : decode cX11_fault 32 = .ok (.ireturn, 1) := dz1 (k := 0) (m := 1) dzc0_cX11_fault_32 di_13 (Nat.zero_lt_succ _) rfl
set_option maxRecDepth 100000 in
theorem dzc0_cX11_hall_0 : DzLies cX11_hall (.mk ⟨[0x2a, 0x1b, 0xb6, 0x00, 0x5a, 0x9a, 0x00, 0x05, 0x02, 0xac, 0x2a, 0xb4, 0x00, 0x13, 0x1b, 0x2e, 0x9c, 0x00, 0x09, 0x2a, 0x04, 0xb6, 0x00, 0x4f, 0xac, 0x2a, 0x1b, 0xb6, 0x00, 0x79, 0x10, 0xf7]⟩) 0 := dz_lies (m := 32) (Nat.zero_lt_succ _) rfl
theorem dX11_hall_0 : decode cX11_hall 0 = .ok (.aload_n 0, 1) := dz1 (k := 0) (m := 1) dzc0_cX11_hall_0 di_0 (Nat.zero_lt_succ _) rfl
theorem dX11_hall_1 : decode cX11_hall 1 = .ok (.iload_n 1, 1) := dz1 (k := 1) (m := 1) dzc0_cX11_hall_0 di_11 (Nat.zero_lt_succ _) rfl
theorem dX11_hall_2 : decode cX11_hall 2 = .ok (.invokevirtual 90, 3) := dz1 (k := 2) (m := 3) dzc0_cX11_hall_0 di_535 (Nat.zero_lt_succ _) rfl
theorem dX11_hall_5 : decode cX11_hall 5 = .ok (.ifCond .ne 5, 3) := dz1 (k := 5) (m := 3) dzc0_cX11_hall_0 di_239 (Nat.zero_lt_succ _) rfl
theorem dX11_hall_8 : decode cX11_hall 8 = .ok (.iconst (-1), 1) := dz1 (k := 8) (m := 1) dzc0_cX11_hall_0 di_65 (Nat.zero_lt_succ _) rfl
theorem dX11_hall_9 : decode cX11_hall 9 = .ok (.ireturn, 1) := dz1 (k := 9) (m := 1) dzc0_cX11_hall_0 di_13 (Nat.zero_lt_succ _) rfl
theorem dX11_hall_10 : decode cX11_hall 10 = .ok (.aload_n 0, 1) := dz1 (k := 10) (m := 1) dzc0_cX11_hall_0 di_0 (Nat.zero_lt_succ _) rfl
theorem dX11_hall_11 : decode cX11_hall 11 = .ok (.getfield 19, 3) := dz1 (k := 11) (m := 3) dzc0_cX11_hall_0 di_515 (Nat.zero_lt_succ _) rfl
theorem dX11_hall_14 : decode cX11_hall 14 = .ok (.iload_n 1, 1) := dz1 (k := 14) (m := 1) dzc0_cX11_hall_0 di_11 (Nat.zero_lt_succ _) rfl
theorem dX11_hall_15 : decode cX11_hall 15 = .ok (.iaload, 1) := dz1 (k := 15) (m := 1) dzc0_cX11_hall_0 di_30 (Nat.zero_lt_succ _) rfl
theorem dX11_hall_16 : decode cX11_hall 16 = .ok (.ifCond .ge 9, 3) := dz1 (k := 16) (m := 3) dzc0_cX11_hall_0 di_231 (Nat.zero_lt_succ _) rfl
theorem dX11_hall_19 : decode cX11_hall 19 = .ok (.aload_n 0, 1) := dz1 (k := 19) (m := 1) dzc0_cX11_hall_0 di_0 (Nat.zero_lt_succ _) rfl
theorem dX11_hall_20 : decode cX11_hall 20 = .ok (.iconst 1, 1) := dz1 (k := 20) (m := 1) dzc0_cX11_hall_0 di_10 (Nat.zero_lt_succ _) rfl
theorem dX11_hall_21 : decode cX11_hall 21 = .ok (.invokevirtual 79, 3) := dz1 (k := 21) (m := 3) dzc0_cX11_hall_0 di_526 (Nat.zero_lt_succ _) rfl
theorem dX11_hall_24 : decode cX11_hall 24 = .ok (.ireturn, 1) := dz1 (k := 24) (m := 1) dzc0_cX11_hall_0 di_13 (Nat.zero_lt_succ _) rfl
theorem dX11_hall_25 : decode cX11_hall 25 = .ok (.aload_n 0, 1) := dz1 (k := 25) (m := 1) dzc0_cX11_hall_0 di_0 (Nat.zero_lt_succ _) rfl
theorem dX11_hall_26 : decode cX11_hall 26 = .ok (.iload_n 1, 1) := dz1 (k := 26) (m := 1) dzc0_cX11_hall_0 di_11 (Nat.zero_lt_succ _) rfl
theorem dX11_hall_27 : decode cX11_hall 27 = .ok (.invokevirtual 121, 3) := dz1 (k := 27) (m := 3) dzc0_cX11_hall_0 di_258 (Nat.zero_lt_succ _) rfl
theorem dX11_hall_30 : decode cX11_hall 30 = .ok (.bipush (-9), 2) := dz1 (k := 30) (m := 2) dzc0_cX11_hall_0 di_102 (Nat.zero_lt_succ _) rfl
set_option maxRecDepth 100000 in
theorem dzc0_cX11_hall_32 : DzLies cX11_hall (.mk ⟨[0x9f, 0x00, 0x06, 0x10, 0xfc, 0xac, 0x2a, 0x2a, 0xb4, 0x00, 0x6f, 0xb5, 0x00, 0x7c, 0x03, 0x3d, 0x1c, 0x2a, 0xb4, 0x00, 0x7c, 0xa2, 0x00, 0x15, 0x2a, 0xb4, 0x00, 0x1a, 0x1c, 0x2a, 0xb4, 0x00, 0x20]⟩) 32 := dz_lies (m := 33) (Nat.zero_lt_succ _) rfl
theorem dX11_hall_32 : decode cX11_hall 32 = .ok (.if_icmp .eq 6, 3) := dz1 (k := 0) (m := 3) dzc0_cX11_hall_32 di_103 (Nat.zero_lt_succ _) rfl
theorem dX11_hall_35 : decode cX11_hall 35 = .ok (.bipush (-4), 2) := dz1 (k := 3) (m := 2) dzc0_cX11_hall_32 di_264 (Nat.zero_lt_succ _) rfl
theorem dX11_hall_37 : decode cX11_hall 37 = .ok (.ireturn, 1) := dz1 (k := 5) (m := 1) dzc0_cX11_hall_32 di_13 (Nat.zero_lt_succ _) rfl
theorem dX11_hall_38 : decode cX11_hall 38 = .ok (.aload_n 0, 1) := dz1 (k := 6) (m := 1) dzc0_cX11_hall_32 di_0 (Nat.zero_lt_succ _) rfl
theorem dX11_hall_39 : decode cX11_hall 39 = .ok (.aload_n 0, 1) := dz1 (k := 7) (m := 1) dzc0_cX11_hall_32 di_0 (Nat.zero_lt_succ _) rfl
theorem dX11_hall_40 : decode cX11_hall 40 = .ok (.getfield 111, 3) := dz1 (k := 8) (m := 3) dzc0_cX11_hall_32 di_566 (Nat.zero_lt_succ _) rfl
theorem dX11_hall_43 : decode cX11_hall 43 = .ok (.putfield 124, 3) := dz1 (k := 11) (m := 3) dzc0_cX11_hall_32 di_571 (Nat.zero_lt_succ _) rfl
theorem dX11_hall_46 : decode cX11_hall 46 = .ok (.iconst 0, 1) := dz1 (k := 14) (m := 1) dzc0_cX11_hall_32 di_8 (Nat.zero_lt_succ _) rfl
theorem dX11_hall_47 : decode cX11_hall 47 = .ok (.istore_n 2, 1) := dz1 (k := 15) (m := 1) dzc0_cX11_hall_32 di_27 (Nat.zero_lt_succ _) rfl
theorem dX11_hall_48 : decode cX11_hall 48 = .ok (.iload_n 2, 1) := dz1 (k := 16) (m := 1) dzc0_cX11_hall_32 di_28 (Nat.zero_lt_succ _) rfl
theorem dX11_hall_49 : decode cX11_hall 49 = .ok (.aload_n 0, 1) := dz1 (k := 17) (m := 1) dzc0_cX11_hall_32 di_0 (Nat.zero_lt_succ _) rfl
theorem dX11_hall_50 : decode cX11_hall 50 = .ok (.getfield 124, 3) := dz1 (k := 18) (m := 3) dzc0_cX11_hall_32 di_572 (Nat.zero_lt_succ _) rfl
theorem dX11_hall_53 : decode cX11_hall 53 = .ok (.if_icmp .ge 21, 3) := dz1 (k := 21) (m := 3) dzc0_cX11_hall_32 di_29 (Nat.zero_lt_succ _) rfl
theorem dX11_hall_56 : decode cX11_hall 56 = .ok (.aload_n 0, 1) := dz1 (k := 24) (m := 1) dzc0_cX11_hall_32 di_0 (Nat.zero_lt_succ _) rfl
theorem dX11_hall_57 : decode cX11_hall 57 = .ok (.getfield 26, 3) := dz1 (k := 25) (m := 3) dzc0_cX11_hall_32 di_573 (Nat.zero_lt_succ _) rfl
theorem dX11_hall_60 : decode cX11_hall 60 = .ok (.iload_n 2, 1) := dz1 (k := 28) (m := 1) dzc0_cX11_hall_32 di_28 (Nat.zero_lt_succ _) rfl
theorem dX11_hall_61 : decode cX11_hall 61 = .ok (.aload_n 0, 1) := dz1 (k := 29) (m := 1) dzc0_cX11_hall_32 di_0 (Nat.zero_lt_succ _) rfl
theorem dX11_hall_62 : decode cX11_hall 62 = .ok (.getfield 32, 3) := dz1 (k := 30) (m := 3) dzc0_cX11_hall_32 di_568 (Nat.zero_lt_succ _) rfl
set_option maxRecDepth 100000 in
theorem dzc0_cX11_hall_64 : DzLies cX11_hall (.mk ⟨[0x20, 0x1c, 0x2e, 0x4f, 0x84, 0x02, 0x01, 0xa7, 0xff, 0xe9, 0x03, 0x3d, 0x1c, 0x10, 0x18, 0xa2, 0x00, 0x15, 0x2a, 0xb4, 0x00, 0x1d, 0x1c, 0x2a, 0xb4, 0x00, 0x23, 0x1c, 0x2e, 0x4f, 0x84, 0x02, 0x01]⟩) 64 := dz_lies (m := 33) (Nat.zero_lt_succ _) rfl
theorem dX11_hall_65 : decode cX11_hall 65 = .ok (.iload_n 2, 1) := dz1 (k := 1) (m := 1) dzc0_cX11_hall_64 di_28 (Nat.zero_lt_succ _) rfl
theorem dX11_hall_66 : decode cX11_hall 66 = .ok (.iaload, 1) := dz1 (k := 2) (m := 1) dzc0_cX11_hall_64 di_30 (Nat.zero_lt_succ _) rfl
theorem dX11_hall_67 : decode cX11_hall 67 = .ok (.iastore, 1) := dz1 (k := 3) (m := 1) dzc0_cX11_hall_64 di_22 (Nat.zero_lt_succ _) rfl
theorem dX11_hall_68 : decode cX11_hall 68 = .ok (.iinc 2 1, 3) := dz1 (k := 4) (m := 3) dzc0_cX11_hall_64 di_31 (Nat.zero_lt_succ _) rfl
theorem dX11_hall_71 : decode cX11_hall 71 = .ok (.goto (-23), 3) := dz1 (k := 7) (m := 3) dzc0_cX11_hall_64 di_32 (Nat.zero_lt_succ _) rfl
theorem dX11_hall_74 : decode cX11_hall 74 = .ok (.iconst 0, 1) := dz1 (k := 10) (m := 1) dzc0_cX11_hall_64 di_8 (Nat.zero_lt_succ _) rfl
theorem dX11_hall_75 : decode cX11_hall 75 = .ok (.istore_n 2, 1) := dz1 (k := 11) (m := 1) dzc0_cX11_hall_64 di_27 (Nat.zero_lt_succ _) rfl
theorem dX11_hall_76 : decode cX11_hall 76 = .ok (.iload_n 2, 1) := dz1 (k := 12) (m := 1) dzc0_cX11_hall_64 di_28 (Nat.zero_lt_succ _) rfl
theorem dX11_hall_77 : decode cX11_hall 77 = .ok (.bipush 24, 2) := dz1 (k := 13) (m := 2) dzc0_cX11_hall_64 di_503 (Nat.zero_lt_succ _) rfl
theorem dX11_hall_79 : decode cX11_hall 79 = .ok (.if_icmp .ge 21, 3) := dz1 (k := 15) (m := 3) dzc0_cX11_hall_64 di_29 (Nat.zero_lt_succ _) rfl
theorem dX11_hall_82 : decode cX11_hall 82 = .ok (.aload_n 0, 1) := dz1 (k := 18) (m := 1) dzc0_cX11_hall_64 di_0 (Nat.zero_lt_succ _) rfl
theorem dX11_hall_83 : decode cX11_hall 83 = .ok (.getfield 29, 3) := dz1 (k := 19) (m := 3) dzc0_cX11_hall_64 di_36 (Nat.zero_lt_succ _) rfl
theorem dX11_hall_86 : decode cX11_hall 86 = .ok (.iload_n 2, 1) := dz1 (k := 22) (m := 1) dzc0_cX11_hall_64 di_28 (Nat.zero_lt_succ _) rfl
theorem dX11_hall_87 : decode cX11_hall 87 = .ok (.aload_n 0, 1) := dz1 (k := 23) (m := 1) dzc0_cX11_hall_64 di_0 (Nat.zero_lt_succ _) rfl
theorem dX11_hall_88 : decode cX11_hall 88 = .ok (.getfield 35, 3) := dz1 (k := 24) (m := 3) dzc0_cX11_hall_64 di_551 (Nat.zero_lt_succ _) rfl
theorem dX11_hall_91 : decode cX11_hall 91 = .ok (.iload_n 2, 1) := dz1 (k := 27) (m := 1) dzc0_cX11_hall_64 di_28 (Nat.zero_lt_succ _) rfl
theorem dX11_hall_92 : decode cX11_hall 92 = .ok (.iaload, 1) := dz1 (k := 28) (m := 1) dzc0_cX11_hall_64 di_30 (Nat.zero_lt_succ _) rfl
theorem dX11_hall_93 : decode cX11_hall 93 = .ok (.iastore, 1) := dz1 (k := 29) (m := 1) dzc0_cX11_hall_64 di_22 (Nat.zero_lt_succ _) rfl
theorem dX11_hall_94 : decode cX11_hall 94 = .ok (.iinc 2 1, 3) := dz1 (k := 30) (m := 3) dzc0_cX11_hall_64 di_31 (Nat.zero_lt_succ _) rfl
set_option maxRecDepth 100000 in
theorem dzc0_cX11_hall_96 : DzLies cX11_hall (.mk ⟨[0x01, 0xa7, 0xff, 0xeb, 0x03, 0x3d, 0x1c, 0x10, 0x08, 0xa2, 0x00, 0x1b, 0x2a, 0xb4, 0x00, 0x26, 0x1c, 0x1c, 0x08, 0xa0, 0x00, 0x09, 0x11, 0x1f, 0xfe, 0xa7, 0x00, 0x04, 0x03, 0x4f, 0x84, 0x02, 0x01]⟩) 96 := dz_lies (m := 33) (Nat.zero_lt_succ _) rfl
theorem dX11_hall_97 : decode cX11_hall 97 = .ok (.goto (-21), 3) := dz1 (k := 1) (m := 3) dzc0_cX11_hall_96 di_538 (Nat.zero_lt_succ _) rfl
theorem dX11_hall_100 : decode cX11_hall 100 = .ok (.iconst 0, 1) := dz1 (k := 4) (m := 1) dzc0_cX11_hall_96 di_8 (Nat.zero_lt_succ _) rfl
theorem dX11_hall_101 : decode cX11_hall 101 = .ok (.istore_n 2, 1) := dz1 (k := 5) (m := 1) dzc0_cX11_hall_96 di_27 (Nat.zero_lt_succ _) rfl
theorem dX11_hall_102 : decode cX11_hall 102 = .ok (.iload_n 2, 1) := dz1 (k := 6) (m := 1) dzc0_cX11_hall_96 di_28 (Nat.zero_lt_succ _) rfl
theorem dX11_hall_103 : decode cX11_hall 103 = .ok (.bipush 8, 2) := dz1 (k := 7) (m := 2) dzc0_cX11_hall_96 di_184 (Nat.zero_lt_succ _) rfl
theorem dX11_hall_105 : decode cX11_hall 105 = .ok (.if_icmp .ge 27, 3) := dz1 (k := 9) (m := 3) dzc0_cX11_hall_96 di_428 (Nat.zero_lt_succ _) rfl
theorem dX11_hall_108 : decode cX11_hall 108 = .ok (.aload_n 0, 1) := dz1 (k := 12) (m := 1) dzc0_cX11_hall_96 di_0 (Nat.zero_lt_succ _) rfl
theorem dX11_hall_109 : decode cX11_hall 109 = .ok (.getfield 38, 3) := dz1 (k := 13) (m := 3) dzc0_cX11_hall_96 di_574 (Nat.zero_lt_succ _) rfl
theorem dX11_hall_112 : decode cX11_hall 112 = .ok (.iload_n 2, 1) := dz1 (k := 16) (m := 1) dzc0_cX11_hall_96 di_28 (Nat.zero_lt_succ _) rfl
theorem dX11_hall_113 : decode cX11_hall 113 = .ok (.iload_n 2, 1) := dz1 (k := 17) (m := 1) dzc0_cX11_hall_96 di_28 (Nat.zero_lt_succ _) rfl
theorem dX11_hall_114 : decode cX11_hall 114 = .ok (.iconst 5, 1) := dz1 (k := 18) (m := 1) dzc0_cX11_hall_96 di_145 (Nat.zero_lt_succ _) rfl
theorem dX11_hall_115 : decode cX11_hall 115 = .ok (.if_icmp .ne 9, 3) := dz1 (k := 19) (m := 3) dzc0_cX11_hall_96 di_93 (Nat.zero_lt_succ _) rfl
theorem dX11_hall_118 : decode cX11_hall 118 = .ok (.sipush 8190, 3) := dz1 (k := 22) (m := 3) dzc0_cX11_hall_96 di_38 (Nat.zero_lt_succ _) rfl
theorem dX11_hall_121 : decode cX11_hall 121 = .ok (.goto 4, 3) := dz1 (k := 25) (m := 3) dzc0_cX11_hall_96 di_49 (Nat.zero_lt_succ _) rfl
theorem dX11_hall_124 : decode cX11_hall 124 = .ok (.iconst 0, 1) := dz1 (k := 28) (m := 1) dzc0_cX11_hall_96 di_8 (Nat.zero_lt_succ _) rfl
theorem dX11_hall_125 : decode cX11_hall 125 = .ok (.iastore, 1) := dz1 (k := 29) (m := 1) dzc0_cX11_hall_96 di_22 (Nat.zero_lt_succ _) rfl
theorem dX11_hall_126 : decode cX11_hall 126 = .ok (.iinc 2 1, 3) := dz1 (k := 30) (m := 3) dzc0_cX11_hall_96 di_31 (Nat.zero_lt_succ _) rfl
set_option maxRecDepth 100000 in
theorem dzc0_cX11_hall_128 : DzLies cX11_hall (.mk ⟨[0x01, 0xa7, 0xff, 0xe5, 0x2a, 0x03, 0xb5, 0x00, 0x7f, 0x03, 0x3d, 0x1c, 0x06, 0xa2, 0x00, 0x10, 0x2a, 0xb4, 0x00, 0x29, 0x1c, 0x02, 0x4f, 0x84, 0x02, 0x01, 0xa7, 0xff, 0xf1, 0x2a, 0xb4, 0x00, 0x7c]⟩) 128 := dz_lies (m := 33) (Nat.zero_lt_succ _) rfl
theorem dX11_hall_129 : decode cX11_hall 129 = .ok (.goto (-27), 3) := dz1 (k := 1) (m := 3) dzc0_cX11_hall_128 di_429 (Nat.zero_lt_succ _) rfl
theorem dX11_hall_132 : decode cX11_hall 132 = .ok (.aload_n 0, 1) := dz1 (k := 4) (m := 1) dzc0_cX11_hall_128 di_0 (Nat.zero_lt_succ _) rfl
theorem dX11_hall_133 : decode cX11_hall 133 = .ok (.iconst 0, 1) := dz1 (k := 5) (m := 1) dzc0_cX11_hall_128 di_8 (Nat.zero_lt_succ _) rfl
theorem dX11_hall_134 : decode cX11_hall 134 = .ok (.putfield 127, 3) := dz1 (k := 6) (m := 3) dzc0_cX11_hall_128 di_575 (Nat.zero_lt_succ _) rfl
theorem dX11_hall_137 : decode cX11_hall 137 = .ok (.iconst 0, 1) := dz1 (k := 9) (m := 1) dzc0_cX11_hall_128 di_8 (Nat.zero_lt_succ _) rfl
theorem dX11_hall_138 : decode cX11_hall 138 = .ok (.istore_n 2, 1) := dz1 (k := 10) (m := 1) dzc0_cX11_hall_128 di_27 (Nat.zero_lt_succ _) rfl
theorem dX11_hall_139 : decode cX11_hall 139 = .ok (.iload_n 2, 1) := dz1 (k := 11) (m := 1) dzc0_cX11_hall_128 di_28 (Nat.zero_lt_succ _) rfl
theorem dX11_hall_140 : decode cX11_hall 140 = .ok (.iconst 3, 1) := dz1 (k := 12) (m := 1) dzc0_cX11_hall_128 di_4 (Nat.zero_lt_succ _) rfl
theorem dX11_hall_141 : decode cX11_hall 141 = .ok (.if_icmp .ge 16, 3) := dz1 (k := 13) (m := 3) dzc0_cX11_hall_128 di_513 (Nat.zero_lt_succ _) rfl
theorem dX11_hall_144 : decode cX11_hall 144 = .ok (.aload_n 0, 1) := dz1 (k := 16) (m := 1) dzc0_cX11_hall_128 di_0 (Nat.zero_lt_succ _) rfl
theorem dX11_hall_145 : decode cX11_hall 145 = .ok (.getfield 41, 3) := dz1 (k := 17) (m := 3) dzc0_cX11_hall_128 di_517 (Nat.zero_lt_succ _) rfl
theorem dX11_hall_148 : decode cX11_hall 148 = .ok (.iload_n 2, 1) := dz1 (k := 20) (m := 1) dzc0_cX11_hall_128 di_28 (Nat.zero_lt_succ _) rfl
theorem dX11_hall_149 : decode cX11_hall 149 = .ok (.iconst (-1), 1) := dz1 (k := 21) (m := 1) dzc0_cX11_hall_128 di_65 (Nat.zero_lt_succ _) rfl
theorem dX11_hall_150 : decode cX11_hall 150 = .ok (.iastore, 1) := dz1 (k := 22) (m := 1) dzc0_cX11_hall_128 di_22 (Nat.zero_lt_succ _) rfl
theorem dX11_hall_151 : decode cX11_hall 151 = .ok (.iinc 2 1, 3) := dz1 (k := 23) (m := 3) dzc0_cX11_hall_128 di_31 (Nat.zero_lt_succ _) rfl
theorem dX11_hall_154 : decode cX11_hall 154 = .ok (.goto (-15), 3) := dz1 (k := 26) (m := 3) dzc0_cX11_hall_128 di_516 (Nat.zero_lt_succ _) rfl
theorem dX11_hall_157 : decode cX11_hall 157 = .ok (.aload_n 0, 1) := dz1 (k := 29) (m := 1) dzc0_cX11_hall_128 di_0 (Nat.zero_lt_succ _) rfl
theorem dX11_hall_158 : decode cX11_hall 158 = .ok (.getfield 124, 3) := dz1 (k := 30) (m := 3) dzc0_cX11_hall_128 di_572 (Nat.zero_lt_succ _) rfl
set_option maxRecDepth 100000 in
theorem dzc0_cX11_hall_160 : DzLies cX11_hall (.mk ⟨[0x7c, 0xac]⟩) 160 := dz_lies (m := 2) (Nat.zero_lt_succ _) rfl
theorem dX11_hall_161 : decode cX11_hall 161 = .ok (.ireturn, 1) := dz1 (k := 1) (m := 1) dzc0_cX11_hall_160 di_13 (Nat.zero_lt_succ _) rfl
set_option maxRecDepth 100000 in
theorem dzc0_cX11_isPlayer_0 : DzLies cX11_isPlayer (.mk ⟨[0x1b, 0x85, 0x09, 0x2a, 0xb4, 0x00, 0x7c, 0x04, 0x64, 0x85, 0xb8, 0x00, 0x45, 0xac]⟩) 0 := dz_lies (m := 14) (Nat.zero_lt_succ _) rfl
theorem dX11_isPlayer_0 : decode cX11_isPlayer 0 = .ok (.iload_n 1, 1) := dz1 (k := 0) (m := 1) dzc0_cX11_isPlayer_0 di_11 (Nat.zero_lt_succ _) rfl
theorem dX11_isPlayer_1 : decode cX11_isPlayer 1 = .ok (.i2l, 1) := dz1 (k := 1) (m := 1) dzc0_cX11_isPlayer_0 di_250 (Nat.zero_lt_succ _) rfl
theorem dX11_isPlayer_2 : decode cX11_isPlayer 2 = .ok (.lconst 0, 1) := dz1 (k := 2) (m := 1) dzc0_cX11_isPlayer_0 di_246 (Nat.zero_lt_succ _) rfl
theorem dX11_isPlayer_3 : decode cX11_isPlayer 3 = .ok (.aload_n 0, 1) := dz1 (k := 3) (m := 1) dzc0_cX11_isPlayer_0 di_0 (Nat.zero_lt_succ _) rfl
theorem dX11_isPlayer_4 : decode cX11_isPlayer 4 = .ok (.getfield 124, 3) := dz1 (k := 4) (m := 3) dzc0_cX11_isPlayer_0 di_572 (Nat.zero_lt_succ _) rfl
theorem dX11_isPlayer_7 : decode cX11_isPlayer 7 = .ok (.iconst 1, 1) := dz1 (k := 7) (m := 1) dzc0_cX11_isPlayer_0 di_10 (Nat.zero_lt_succ _) rfl
theorem dX11_isPlayer_8 : decode cX11_isPlayer 8 = .ok (.isub, 1) := dz1 (k := 8) (m := 1) dzc0_cX11_isPlayer_0 di_14 (Nat.zero_lt_succ _) rfl
theorem dX11_isPlayer_9 : decode cX11_isPlayer 9 = .ok (.i2l, 1) := dz1 (k := 9) (m := 1) dzc0_cX11_isPlayer_0 di_250 (Nat.zero_lt_succ _) rfl
theorem dX11_isPlayer_10 : decode cX11_isPlayer 10 = .ok (.invokestatic 69, 3) := dz1 (k := 10) (m := 3) dzc0_cX11_isPlayer_0 di_522 (Nat.zero_lt_succ _) rfl
theorem dX11_isPlayer_13 : decode cX11_isPlayer 13 = .ok (.ireturn, 1) := dz1 (k := 13) (m := 1) dzc0_cX11_isPlayer_0 di_13 (Nat.zero_lt_succ _) rfl
set_option maxRecDepth 100000 in
theorem dzc0_cX11_isA_0 : DzLies cX11_isA (.mk ⟨[0x1a, 0x1b, 0x9f, 0x00, 0x1b, 0x1b, 0x99, 0x00, 0x17, 0x1b, 0x04, 0xa0, 0x00, 0x08, 0x1a, 0x07, 0x9f, 0x00, 0x0d, 0x1b, 0x05, 0xa0, 0x00, 0x0c, 0x1a, 0x08, 0xa0, 0x00, 0x07, 0x04, 0xa7, 0x00, 0x04]⟩) 0 := dz_lies (m := 33) (Nat.zero_lt_succ _) rfl
theorem dX11_isA_0 : decode cX11_isA 0 = .ok (.iload_n 0, 1) := dz1 (k := 0) (m := 1) dzc0_cX11_isA_0 di_109 (Nat.zero_lt_succ _) rfl
theorem dX11_isA_1 : decode cX11_isA 1 = .ok (.iload_n 1, 1) := dz1 (k := 1) (m := 1) dzc0_cX11_isA_0 di_11 (Nat.zero_lt_succ _) rfl
theorem dX11_isA_2 : decode cX11_isA 2 = .ok (.if_icmp .eq 27, 3) := dz1 (k := 2) (m := 3) dzc0_cX11_isA_0 di_576 (Nat.zero_lt_succ _) rfl
theorem dX11_isA_5 : decode cX11_isA 5 = .ok (.iload_n 1, 1) := dz1 (k := 5) (m := 1) dzc0_cX11_isA_0 di_11 (Nat.zero_lt_succ _) rfl
theorem dX11_isA_6 : decode cX11_isA 6 = .ok (.ifCond .eq 23, 3) := dz1 (k := 6) (m := 3) dzc0_cX11_isA_0 di_577 (Nat.zero_lt_succ _) rfl
theorem dX11_isA_9 : decode cX11_isA 9 = .ok (.iload_n 1, 1) := dz1 (k := 9) (m := 1) dzc0_cX11_isA_0 di_11 (Nat.zero_lt_succ _) rfl
theorem dX11_isA_10 : decode cX11_isA 10 = .ok (.iconst 1, 1) := dz1 (k := 10) (m := 1) dzc0_cX11_isA_0 di_10 (Nat.zero_lt_succ _) rfl
theorem dX11_isA_11 : decode cX11_isA 11 = .ok (.if_icmp .ne 8, 3) := dz1 (k := 11) (m := 3) dzc0_cX11_isA_0 di_578 (Nat.zero_lt_succ _) rfl
theorem dX11_isA_14 : decode cX11_isA 14 = .ok (.iload_n 0, 1) := dz1 (k := 14) (m := 1) dzc0_cX11_isA_0 di_109 (Nat.zero_lt_succ _) rfl
theorem dX11_isA_15 : decode cX11_isA 15 = .ok (.iconst 4, 1) := dz1 (k := 15) (m := 1) dzc0_cX11_isA_0 di_33 (Nat.zero_lt_succ _) rfl
theorem dX11_isA_16 : decode cX11_isA 16 = .ok (.if_icmp .eq 13, 3) := dz1 (k := 16) (m := 3) dzc0_cX11_isA_0 di_424 (Nat.zero_lt_succ _) rfl
theorem dX11_isA_19 : decode cX11_isA 19 = .ok (.iload_n 1, 1) := dz1 (k := 19) (m := 1) dzc0_cX11_isA_0 di_11 (Nat.zero_lt_succ _) rfl
theorem dX11_isA_20 : decode cX11_isA 20 = .ok (.iconst 2, 1) := dz1 (k := 20) (m := 1) dzc0_cX11_isA_0 di_6 (Nat.zero_lt_succ _) rfl
theorem dX11_isA_21 : decode cX11_isA 21 = .ok (.if_icmp .ne 12, 3) := dz1 (k := 21) (m := 3) dzc0_cX11_isA_0 di_579 (Nat.zero_lt_succ _) rfl
theorem dX11_isA_24 : decode cX11_isA 24 = .ok (.iload_n 0, 1) := dz1 (k := 24) (m := 1) dzc0_cX11_isA_0 di_109 (Nat.zero_lt_succ _) rfl
theorem dX11_isA_25 : decode cX11_isA 25 = .ok (.iconst 5, 1) := dz1 (k := 25) (m := 1) dzc0_cX11_isA_0 di_145 (Nat.zero_lt_succ _) rfl
theorem dX11_isA_26 : decode cX11_isA 26 = .ok (.if_icmp .ne 7, 3) := dz1 (k := 26) (m := 3) dzc0_cX11_isA_0 di_7 (Nat.zero_lt_succ _) rfl
theorem dX11_isA_29 : decode cX11_isA 29 = .ok (.iconst 1, 1) := dz1 (k := 29) (m := 1) dzc0_cX11_isA_0 di_10 (Nat.zero_lt_succ _) rfl
theorem dX11_isA_30 : decode cX11_isA 30 = .ok (.goto 4, 3) := dz1 (k := 30) (m := 3) dzc0_cX11_isA_0 di_49 (Nat.zero_lt_succ _) rfl
set_option maxRecDepth 100000 in
theorem dzc0_cX11_isA_32 : DzLies cX11_isA (.mk ⟨[0x04, 0x03, 0xac]⟩) 32 := dz_lies (m := 3) (Nat.zero_lt_succ _) rfl
theorem dX11_isA_33 : decode cX11_isA 33 = .ok (.iconst 0, 1) := dz1 (k := 1) (m := 1) dzc0_cX11_isA_32 di_8 (Nat.zero_lt_succ _) rfl
theorem dX11_isA_34 : decode cX11_isA 34 = .ok (.ireturn, 1) := dz1 (k := 2) (m := 1) dzc0_cX11_isA_32 di_13 (Nat.zero_lt_succ _) rfl
set_option maxRecDepth 100000 in
theorem dzc0_cX11_heard_0 : DzLies cX11_heard (.mk ⟨[0x1a, 0x07, 0xa0, 0x00, 0x0f, 0x1c, 0x9a, 0x00, 0x07, 0x03, 0xa7, 0x00, 0x06, 0x04, 0x1c, 0x78, 0xac, 0x1a, 0x05, 0xb8, 0x00, 0x82, 0x99, 0x00, 0x0c, 0x1d, 0x06, 0x70, 0x05, 0xa0, 0x00, 0x05]⟩) 0 := dz_lies (m := 32) (Nat.zero_lt_succ _) rfl
theorem dX11_heard_0 : decode cX11_heard 0 = .ok (.iload_n 0, 1) := dz1 (k := 0) (m := 1) dzc0_cX11_heard_0 di_109 (Nat.zero_lt_succ _) rfl
theorem dX11_heard_1 : decode cX11_heard 1 = .ok (.iconst 4, 1) := dz1 (k := 1) (m := 1) dzc0_cX11_heard_0 di_33 (Nat.zero_lt_succ _) rfl
theorem dX11_heard_2 : decode cX11_heard 2 = .ok (.if_icmp .ne 15, 3) := dz1 (k := 2) (m := 3) dzc0_cX11_heard_0 di_580 (Nat.zero_lt_succ _) rfl
theorem dX11_heard_5 : decode cX11_heard 5 = .ok (.iload_n 2, 1) := dz1 (k := 5) (m := 1) dzc0_cX11_heard_0 di_28 (Nat.zero_lt_succ _) rfl
theorem dX11_heard_6 : decode cX11_heard 6 = .ok (.ifCond .ne 7, 3) := dz1 (k := 6) (m := 3) dzc0_cX11_heard_0 di_37 (Nat.zero_lt_succ _) rfl
theorem dX11_heard_9 : decode cX11_heard 9 = .ok (.iconst 0, 1) := dz1 (k := 9) (m := 1) dzc0_cX11_heard_0 di_8 (Nat.zero_lt_succ _) rfl
theorem dX11_heard_10 : decode cX11_heard 10 = .ok (.goto 6, 3) := dz1 (k := 10) (m := 3) dzc0_cX11_heard_0 di_9 (Nat.zero_lt_succ _) rfl
theorem dX11_heard_13 : decode cX11_heard 13 = .ok (.iconst 1, 1) := dz1 (k := 13) (m := 1) dzc0_cX11_heard_0 di_10 (Nat.zero_lt_succ _) rfl
theorem dX11_heard_14 : decode cX11_heard 14 = .ok (.iload_n 2, 1) := dz1 (k := 14) (m := 1) dzc0_cX11_heard_0 di_28 (Nat.zero_lt_succ _) rfl
theorem dX11_heard_15 : decode cX11_heard 15 = .ok (.ishl, 1) := dz1 (k := 15) (m := 1) dzc0_cX11_heard_0 di_12 (Nat.zero_lt_succ _) rfl
theorem dX11_heard_16 : decode cX11_heard 16 = .ok (.ireturn, 1) := dz1 (k := 16) (m := 1) dzc0_cX11_heard_0 di_13 (Nat.zero_lt_succ _) rfl
theorem dX11_heard_17 : decode cX11_heard 17 = .ok (.iload_n 0, 1) := dz1 (k := 17) (m := 1) dzc0_cX11_heard_0 di_109 (Nat.zero_lt_succ _) rfl
theorem dX11_heard_18 : decode cX11_heard 18 = .ok (.iconst 2, 1) := dz1 (k := 18) (m := 1) dzc0_cX11_heard_0 di_6 (Nat.zero_lt_succ _) rfl
theorem dX11_heard_19 : decode cX11_heard 19 = .ok (.invokestatic 130, 3) := dz1 (k := 19) (m := 3) dzc0_cX11_heard_0 di_581 (Nat.zero_lt_succ _) rfl
theorem dX11_heard_22 : decode cX11_heard 22 = .ok (.ifCond .eq 12, 3) := dz1 (k := 22) (m := 3) dzc0_cX11_heard_0 di_272 (Nat.zero_lt_succ _) rfl
theorem dX11_heard_25 : decode cX11_heard 25 = .ok (.iload_n 3, 1) := dz1 (k := 25) (m := 1) dzc0_cX11_heard_0 di_3 (Nat.zero_lt_succ _) rfl
theorem dX11_heard_26 : decode cX11_heard 26 = .ok (.iconst 3, 1) := dz1 (k := 26) (m := 1) dzc0_cX11_heard_0 di_4 (Nat.zero_lt_succ _) rfl
theorem dX11_heard_27 : decode cX11_heard 27 = .ok (.irem, 1) := dz1 (k := 27) (m := 1) dzc0_cX11_heard_0 di_5 (Nat.zero_lt_succ _) rfl
theorem dX11_heard_28 : decode cX11_heard 28 = .ok (.iconst 2, 1) := dz1 (k := 28) (m := 1) dzc0_cX11_heard_0 di_6 (Nat.zero_lt_succ _) rfl
theorem dX11_heard_29 : decode cX11_heard 29 = .ok (.if_icmp .ne 5, 3) := dz1 (k := 29) (m := 3) dzc0_cX11_heard_0 di_110 (Nat.zero_lt_succ _) rfl
set_option maxRecDepth 100000 in
theorem dzc0_cX11_heard_32 : DzLies cX11_heard (.mk ⟨[0x03, 0xac, 0x1a, 0x08, 0xa0, 0x00, 0x12, 0x04, 0x1b, 0x78, 0x04, 0x1b, 0x10, 0x0c, 0x70, 0x04, 0x60, 0x78, 0x80, 0xa7, 0x00, 0x06, 0x04, 0x1b, 0x78, 0xac]⟩) 32 := dz_lies (m := 26) (Nat.zero_lt_succ _) rfl
theorem dX11_heard_32 : decode cX11_heard 32 = .ok (.iconst 0, 1) := dz1 (k := 0) (m := 1) dzc0_cX11_heard_32 di_8 (Nat.zero_lt_succ _) rfl
theorem dX11_heard_33 : decode cX11_heard 33 = .ok (.ireturn, 1) := dz1 (k := 1) (m := 1) dzc0_cX11_heard_32 di_13 (Nat.zero_lt_succ _) rfl
theorem dX11_heard_34 : decode cX11_heard 34 = .ok (.iload_n 0, 1) := dz1 (k := 2) (m := 1) dzc0_cX11_heard_32 di_109 (Nat.zero_lt_succ _) rfl
theorem dX11_heard_35 : decode cX11_heard 35 = .ok (.iconst 5, 1) := dz1 (k := 3) (m := 1) dzc0_cX11_heard_32 di_145 (Nat.zero_lt_succ _) rfl
theorem dX11_heard_36 : decode cX11_heard 36 = .ok (.if_icmp .ne 18, 3) := dz1 (k := 4) (m := 3) dzc0_cX11_heard_32 di_177 (Nat.zero_lt_succ _) rfl
theorem dX11_heard_39 : decode cX11_heard 39 = .ok (.iconst 1, 1) := dz1 (k := 7) (m := 1) dzc0_cX11_heard_32 di_10 (Nat.zero_lt_succ _) rfl
theorem dX11_heard_40 : decode cX11_heard 40 = .ok (.iload_n 1, 1) := dz1 (k := 8) (m := 1) dzc0_cX11_heard_32 di_11 (Nat.zero_lt_succ _) rfl
theorem dX11_heard_41 : decode cX11_heard 41 = .ok (.ishl, 1) := dz1 (k := 9) (m := 1) dzc0_cX11_heard_32 di_12 (Nat.zero_lt_succ _) rfl
theorem dX11_heard_42 : decode cX11_heard 42 = .ok (.iconst 1, 1) := dz1 (k := 10) (m := 1) dzc0_cX11_heard_32 di_10 (Nat.zero_lt_succ _) rfl
theorem dX11_heard_43 : decode cX11_heard 43 = .ok (.iload_n 1, 1) := dz1 (k := 11) (m := 1) dzc0_cX11_heard_32 di_11 (Nat.zero_lt_succ _) rfl
theorem dX11_heard_44 : decode cX11_heard 44 = .ok (.bipush 12, 2) := dz1 (k := 12) (m := 2) dzc0_cX11_heard_32 di_126 (Nat.zero_lt_succ _) rfl
theorem dX11_heard_46 : decode cX11_heard 46 = .ok (.irem, 1) := dz1 (k := 14) (m := 1) dzc0_cX11_heard_32 di_5 (Nat.zero_lt_succ _) rfl
theorem dX11_heard_47 : decode cX11_heard 47 = .ok (.iconst 1, 1) := dz1 (k := 15) (m := 1) dzc0_cX11_heard_32 di_10 (Nat.zero_lt_succ _) rfl
theorem dX11_heard_48 : decode cX11_heard 48 = .ok (.iadd, 1) := dz1 (k := 16) (m := 1) dzc0_cX11_heard_32 di_24 (Nat.zero_lt_succ _) rfl
theorem dX11_heard_49 : decode cX11_heard 49 = .ok (.ishl, 1) := dz1 (k := 17) (m := 1) dzc0_cX11_heard_32 di_12 (Nat.zero_lt_succ _) rfl
theorem dX11_heard_50 : decode cX11_heard 50 = .ok (.ior, 1) := dz1 (k := 18) (m := 1) dzc0_cX11_heard_32 di_62 (Nat.zero_lt_succ _) rfl
theorem dX11_heard_51 : decode cX11_heard 51 = .ok (.goto 6, 3) := dz1 (k := 19) (m := 3) dzc0_cX11_heard_32 di_9 (Nat.zero_lt_succ _) rfl
theorem dX11_heard_54 : decode cX11_heard 54 = .ok (.iconst 1, 1) := dz1 (k := 22) (m := 1) dzc0_cX11_heard_32 di_10 (Nat.zero_lt_succ _) rfl
theorem dX11_heard_55 : decode cX11_heard 55 = .ok (.iload_n 1, 1) := dz1 (k := 23) (m := 1) dzc0_cX11_heard_32 di_11 (Nat.zero_lt_succ _) rfl
theorem dX11_heard_56 : decode cX11_heard 56 = .ok (.ishl, 1) := dz1 (k := 24) (m := 1) dzc0_cX11_heard_32 di_12 (Nat.zero_lt_succ _) rfl
theorem dX11_heard_57 : decode cX11_heard 57 = .ok (.ireturn, 1) := dz1 (k := 25) (m := 1) dzc0_cX11_heard_32 di_13 (Nat.zero_lt_succ _) rfl
set_option maxRecDepth 100000 in
theorem dzc0_cX11_needs_0 : DzLies cX11_needs (.mk ⟨[0x06, 0x1b, 0x10, 0x07, 0x7e, 0xb8, 0x00, 0x85, 0x64, 0x3d, 0x06, 0x1b, 0x06, 0x7a, 0xb8, 0x00, 0x85, 0x64, 0x3e, 0x1c, 0x1d, 0xb8, 0x00, 0x65, 0x36, 0x04, 0x03, 0x1c, 0x04, 0x64, 0xb8, 0x00, 0x88]⟩) 0 := dz_lies (m := 33) (Nat.zero_lt_succ _) rfl
theorem dX11_needs_0 : decode cX11_needs 0 = .ok (.iconst 3, 1) := dz1 (k := 0) (m := 1) dzc0_cX11_needs_0 di_4 (Nat.zero_lt_succ _) rfl
theorem dX11_needs_1 : decode cX11_needs 1 = .ok (.iload_n 1, 1) := dz1 (k := 1) (m := 1) dzc0_cX11_needs_0 di_11 (Nat.zero_lt_succ _) rfl
theorem dX11_needs_2 : decode cX11_needs 2 = .ok (.bipush 7, 2) := dz1 (k := 2) (m := 2) dzc0_cX11_needs_0 di_83 (Nat.zero_lt_succ _) rfl
theorem dX11_needs_4 : decode cX11_needs 4 = .ok (.iand, 1) := dz1 (k := 4) (m := 1) dzc0_cX11_needs_0 di_48 (Nat.zero_lt_succ _) rfl
theorem dX11_needs_5 : decode cX11_needs 5 = .ok (.invokestatic 133, 3) := dz1 (k := 5) (m := 3) dzc0_cX11_needs_0 di_582 (Nat.zero_lt_succ _) rfl
theorem dX11_needs_8 : decode cX11_needs 8 = .ok (.isub, 1) := dz1 (k := 8) (m := 1) dzc0_cX11_needs_0 di_14 (Nat.zero_lt_succ _) rfl
theorem dX11_needs_9 : decode cX11_needs 9 = .ok (.istore_n 2, 1) := dz1 (k := 9) (m := 1) dzc0_cX11_needs_0 di_27 (Nat.zero_lt_succ _) rfl
theorem dX11_needs_10 : decode cX11_needs 10 = .ok (.iconst 3, 1) := dz1 (k := 10) (m := 1) dzc0_cX11_needs_0 di_4 (Nat.zero_lt_succ _) rfl
theorem dX11_needs_11 : decode cX11_needs 11 = .ok (.iload_n 1, 1) := dz1 (k := 11) (m := 1) dzc0_cX11_needs_0 di_11 (Nat.zero_lt_succ _) rfl
theorem dX11_needs_12 : decode cX11_needs 12 = .ok (.iconst 3, 1) := dz1 (k := 12) (m := 1) dzc0_cX11_needs_0 di_4 (Nat.zero_lt_succ _) rfl
theorem dX11_needs_13 : decode cX11_needs 13 = .ok (.ishr, 1) := dz1 (k := 13) (m := 1) dzc0_cX11_needs_0 di_47 (Nat.zero_lt_succ _) rfl
theorem dX11_needs_14 : decode cX11_needs 14 = .ok (.invokestatic 133, 3) := dz1 (k := 14) (m := 3) dzc0_cX11_needs_0 di_582 (Nat.zero_lt_succ _) rfl
theorem dX11_needs_17 : decode cX11_needs 17 = .ok (.isub, 1) := dz1 (k := 17) (m := 1) dzc0_cX11_needs_0 di_14 (Nat.zero_lt_succ _) rfl
theorem dX11_needs_18 : decode cX11_needs 18 = .ok (.istore_n 3, 1) := dz1 (k := 18) (m := 1) dzc0_cX11_needs_0 di_50 (Nat.zero_lt_succ _) rfl
theorem dX11_needs_19 : decode cX11_needs 19 = .ok (.iload_n 2, 1) := dz1 (k := 19) (m := 1) dzc0_cX11_needs_0 di_28 (Nat.zero_lt_succ _) rfl
theorem dX11_needs_20 : decode cX11_needs 20 = .ok (.iload_n 3, 1) := dz1 (k := 20) (m := 1) dzc0_cX11_needs_0 di_3 (Nat.zero_lt_succ _) rfl
theorem dX11_needs_21 : decode cX11_needs 21 = .ok (.invokestatic 101, 3) := dz1 (k := 21) (m := 3) dzc0_cX11_needs_0 di_557 (Nat.zero_lt_succ _) rfl
theorem dX11_needs_24 : decode cX11_needs 24 = .ok (.istore 4, 2) := dz1 (k := 24) (m := 2) dzc0_cX11_needs_0 di_51 (Nat.zero_lt_succ _) rfl
theorem dX11_needs_26 : decode cX11_needs 26 = .ok (.iconst 0, 1) := dz1 (k := 26) (m := 1) dzc0_cX11_needs_0 di_8 (Nat.zero_lt_succ _) rfl
theorem dX11_needs_27 : decode cX11_needs 27 = .ok (.iload_n 2, 1) := dz1 (k := 27) (m := 1) dzc0_cX11_needs_0 di_28 (Nat.zero_lt_succ _) rfl
theorem dX11_needs_28 : decode cX11_needs 28 = .ok (.iconst 1, 1) := dz1 (k := 28) (m := 1) dzc0_cX11_needs_0 di_10 (Nat.zero_lt_succ _) rfl
theorem dX11_needs_29 : decode cX11_needs 29 = .ok (.isub, 1) := dz1 (k := 29) (m := 1) dzc0_cX11_needs_0 di_14 (Nat.zero_lt_succ _) rfl
theorem dX11_needs_30 : decode cX11_needs 30 = .ok (.invokestatic 136, 3) := dz1 (k := 30) (m := 3) dzc0_cX11_needs_0 di_583 (Nat.zero_lt_succ _) rfl
set_option maxRecDepth 100000 in
theorem dzc0_cX11_needs_32 : DzLies cX11_needs (.mk ⟨[0x88, 0x03, 0x1d, 0x04, 0x64, 0xb8, 0x00, 0x88, 0x60, 0x36, 0x05, 0x1a, 0x04, 0xb8, 0x00, 0x82, 0x99, 0x00, 0x09, 0x1c, 0x1d, 0x60, 0xa7, 0x00, 0x14, 0x1a, 0x06, 0xa0, 0x00, 0x0d, 0x15, 0x04]⟩) 32 := dz_lies (m := 32) (Nat.zero_lt_succ _) rfl
theorem dX11_needs_33 : decode cX11_needs 33 = .ok (.iconst 0, 1) := dz1 (k := 1) (m := 1) dzc0_cX11_needs_32 di_8 (Nat.zero_lt_succ _) rfl
theorem dX11_needs_34 : decode cX11_needs 34 = .ok (.iload_n 3, 1) := dz1 (k := 2) (m := 1) dzc0_cX11_needs_32 di_3 (Nat.zero_lt_succ _) rfl
theorem dX11_needs_35 : decode cX11_needs 35 = .ok (.iconst 1, 1) := dz1 (k := 3) (m := 1) dzc0_cX11_needs_32 di_10 (Nat.zero_lt_succ _) rfl
theorem dX11_needs_36 : decode cX11_needs 36 = .ok (.isub, 1) := dz1 (k := 4) (m := 1) dzc0_cX11_needs_32 di_14 (Nat.zero_lt_succ _) rfl
theorem dX11_needs_37 : decode cX11_needs 37 = .ok (.invokestatic 136, 3) := dz1 (k := 5) (m := 3) dzc0_cX11_needs_32 di_583 (Nat.zero_lt_succ _) rfl
theorem dX11_needs_40 : decode cX11_needs 40 = .ok (.iadd, 1) := dz1 (k := 8) (m := 1) dzc0_cX11_needs_32 di_24 (Nat.zero_lt_succ _) rfl
theorem dX11_needs_41 : decode cX11_needs 41 = .ok (.istore 5, 2) := dz1 (k := 9) (m := 2) dzc0_cX11_needs_32 di_100 (Nat.zero_lt_succ _) rfl
theorem dX11_needs_43 : decode cX11_needs 43 = .ok (.iload_n 0, 1) := dz1 (k := 11) (m := 1) dzc0_cX11_needs_32 di_109 (Nat.zero_lt_succ _) rfl
theorem dX11_needs_44 : decode cX11_needs 44 = .ok (.iconst 1, 1) := dz1 (k := 12) (m := 1) dzc0_cX11_needs_32 di_10 (Nat.zero_lt_succ _) rfl
theorem dX11_needs_45 : decode cX11_needs 45 = .ok (.invokestatic 130, 3) := dz1 (k := 13) (m := 3) dzc0_cX11_needs_32 di_581 (Nat.zero_lt_succ _) rfl
theorem dX11_needs_48 : decode cX11_needs 48 = .ok (.ifCond .eq 9, 3) := dz1 (k := 16) (m := 3) dzc0_cX11_needs_32 di_229 (Nat.zero_lt_succ _) rfl
theorem dX11_needs_51 : decode cX11_needs 51 = .ok (.iload_n 2, 1) := dz1 (k := 19) (m := 1) dzc0_cX11_needs_32 di_28 (Nat.zero_lt_succ _) rfl
theorem dX11_needs_52 : decode cX11_needs 52 = .ok (.iload_n 3, 1) := dz1 (k := 20) (m := 1) dzc0_cX11_needs_32 di_3 (Nat.zero_lt_succ _) rfl
theorem dX11_needs_53 : decode cX11_needs 53 = .ok (.iadd, 1) := dz1 (k := 21) (m := 1) dzc0_cX11_needs_32 di_24 (Nat.zero_lt_succ _) rfl
theorem dX11_needs_54 : decode cX11_needs 54 = .ok (.goto 20, 3) := dz1 (k := 22) (m := 3) dzc0_cX11_needs_32 di_584 (Nat.zero_lt_succ _) rfl
theorem dX11_needs_57 : decode cX11_needs 57 = .ok (.iload_n 0, 1) := dz1 (k := 25) (m := 1) dzc0_cX11_needs_32 di_109 (Nat.zero_lt_succ _) rfl
theorem dX11_needs_58 : decode cX11_needs 58 = .ok (.iconst 3, 1) := dz1 (k := 26) (m := 1) dzc0_cX11_needs_32 di_4 (Nat.zero_lt_succ _) rfl
theorem dX11_needs_59 : decode cX11_needs 59 = .ok (.if_icmp .ne 13, 3) := dz1 (k := 27) (m := 3) dzc0_cX11_needs_32 di_585 (Nat.zero_lt_succ _) rfl
theorem dX11_needs_62 : decode cX11_needs 62 = .ok (.iload 4, 2) := dz1 (k := 30) (m := 2) dzc0_cX11_needs_32 di_52 (Nat.zero_lt_succ _) rfl
set_option maxRecDepth 100000 in
theorem dzc0_cX11_needs_64 : DzLies cX11_needs (.mk ⟨[0x15, 0x05, 0xb8, 0x00, 0x65, 0xa7, 0x00, 0x05, 0x15, 0x04, 0xac]⟩) 64 := dz_lies (m := 11) (Nat.zero_lt_succ _) rfl
theorem dX11_needs_64 : decode cX11_needs 64 = .ok (.iload 5, 2) := dz1 (k := 0) (m := 2) dzc0_cX11_needs_64 di_101 (Nat.zero_lt_succ _) rfl
theorem dX11_needs_66 : decode cX11_needs 66 = .ok (.invokestatic 101, 3) := dz1 (k := 2) (m := 3) dzc0_cX11_needs_64 di_557 (Nat.zero_lt_succ _) rfl
theorem dX11_needs_69 : decode cX11_needs 69 = .ok (.goto 5, 3) := dz1 (k := 5) (m := 3) dzc0_cX11_needs_64 di_106 (Nat.zero_lt_succ _) rfl
theorem dX11_needs_72 : decode cX11_needs 72 = .ok (.iload 4, 2) := dz1 (k := 8) (m := 2) dzc0_cX11_needs_64 di_52 (Nat.zero_lt_succ _) rfl
theorem dX11_needs_74 : decode cX11_needs 74 = .ok (.ireturn, 1) := dz1 (k := 10) (m := 1) dzc0_cX11_needs_64 di_13 (Nat.zero_lt_succ _) rfl
set_option maxRecDepth 100000 in
theorem dzc0_cX11_marksBy_0 : DzLies cX11_marksBy (.mk ⟨[0x03, 0x3e, 0x03, 0x36, 0x04, 0x15, 0x04, 0x10, 0x06, 0xa2, 0x00, 0x27, 0x1d, 0x1c, 0x2a, 0xb4, 0x00, 0x1d, 0x10, 0x06, 0x1b, 0x68, 0x15, 0x04, 0x60, 0x2e, 0xb8, 0x00, 0x8b, 0x99, 0x00, 0x0a]⟩) 0 := dz_lies (m := 32) (Nat.zero_lt_succ _) rfl
theorem dX11_marksBy_0 : decode cX11_marksBy 0 = .ok (.iconst 0, 1) := dz1 (k := 0) (m := 1) dzc0_cX11_marksBy_0 di_8 (Nat.zero_lt_succ _) rfl
theorem dX11_marksBy_1 : decode cX11_marksBy 1 = .ok (.istore_n 3, 1) := dz1 (k := 1) (m := 1) dzc0_cX11_marksBy_0 di_50 (Nat.zero_lt_succ _) rfl
theorem dX11_marksBy_2 : decode cX11_marksBy 2 = .ok (.iconst 0, 1) := dz1 (k := 2) (m := 1) dzc0_cX11_marksBy_0 di_8 (Nat.zero_lt_succ _) rfl
theorem dX11_marksBy_3 : decode cX11_marksBy 3 = .ok (.istore 4, 2) := dz1 (k := 3) (m := 2) dzc0_cX11_marksBy_0 di_51 (Nat.zero_lt_succ _) rfl
theorem dX11_marksBy_5 : decode cX11_marksBy 5 = .ok (.iload 4, 2) := dz1 (k := 5) (m := 2) dzc0_cX11_marksBy_0 di_52 (Nat.zero_lt_succ _) rfl
theorem dX11_marksBy_7 : decode cX11_marksBy 7 = .ok (.bipush 6, 2) := dz1 (k := 7) (m := 2) dzc0_cX11_marksBy_0 di_86 (Nat.zero_lt_succ _) rfl
theorem dX11_marksBy_9 : decode cX11_marksBy 9 = .ok (.if_icmp .ge 39, 3) := dz1 (k := 9) (m := 3) dzc0_cX11_marksBy_0 di_586 (Nat.zero_lt_succ _) rfl
theorem dX11_marksBy_12 : decode cX11_marksBy 12 = .ok (.iload_n 3, 1) := dz1 (k := 12) (m := 1) dzc0_cX11_marksBy_0 di_3 (Nat.zero_lt_succ _) rfl
theorem dX11_marksBy_13 : decode cX11_marksBy 13 = .ok (.iload_n 2, 1) := dz1 (k := 13) (m := 1) dzc0_cX11_marksBy_0 di_28 (Nat.zero_lt_succ _) rfl
theorem dX11_marksBy_14 : decode cX11_marksBy 14 = .ok (.aload_n 0, 1) := dz1 (k := 14) (m := 1) dzc0_cX11_marksBy_0 di_0 (Nat.zero_lt_succ _) rfl
theorem dX11_marksBy_15 : decode cX11_marksBy 15 = .ok (.getfield 29, 3) := dz1 (k := 15) (m := 3) dzc0_cX11_marksBy_0 di_36 (Nat.zero_lt_succ _) rfl
theorem dX11_marksBy_18 : decode cX11_marksBy 18 = .ok (.bipush 6, 2) := dz1 (k := 18) (m := 2) dzc0_cX11_marksBy_0 di_86 (Nat.zero_lt_succ _) rfl
theorem dX11_marksBy_20 : decode cX11_marksBy 20 = .ok (.iload_n 1, 1) := dz1 (k := 20) (m := 1) dzc0_cX11_marksBy_0 di_11 (Nat.zero_lt_succ _) rfl
theorem dX11_marksBy_21 : decode cX11_marksBy 21 = .ok (.imul, 1) := dz1 (k := 21) (m := 1) dzc0_cX11_marksBy_0 di_113 (Nat.zero_lt_succ _) rfl
theorem dX11_marksBy_22 : decode cX11_marksBy 22 = .ok (.iload 4, 2) := dz1 (k := 22) (m := 2) dzc0_cX11_marksBy_0 di_52 (Nat.zero_lt_succ _) rfl
theorem dX11_marksBy_24 : decode cX11_marksBy 24 = .ok (.iadd, 1) := dz1 (k := 24) (m := 1) dzc0_cX11_marksBy_0 di_24 (Nat.zero_lt_succ _) rfl
theorem dX11_marksBy_25 : decode cX11_marksBy 25 = .ok (.iaload, 1) := dz1 (k := 25) (m := 1) dzc0_cX11_marksBy_0 di_30 (Nat.zero_lt_succ _) rfl
theorem dX11_marksBy_26 : decode cX11_marksBy 26 = .ok (.invokestatic 139, 3) := dz1 (k := 26) (m := 3) dzc0_cX11_marksBy_0 di_587 (Nat.zero_lt_succ _) rfl
theorem dX11_marksBy_29 : decode cX11_marksBy 29 = .ok (.ifCond .eq 10, 3) := dz1 (k := 29) (m := 3) dzc0_cX11_marksBy_0 di_460 (Nat.zero_lt_succ _) rfl
set_option maxRecDepth 100000 in
theorem dzc0_cX11_marksBy_32 : DzLies cX11_marksBy (.mk ⟨[0x04, 0x15, 0x04, 0x78, 0xa7, 0x00, 0x04, 0x03, 0x80, 0x3e, 0x84, 0x04, 0x01, 0xa7, 0xff, 0xd8, 0x1d, 0xac]⟩) 32 := dz_lies (m := 18) (Nat.zero_lt_succ _) rfl
theorem dX11_marksBy_32 : decode cX11_marksBy 32 = .ok (.iconst 1, 1) := dz1 (k := 0) (m := 1) dzc0_cX11_marksBy_32 di_10 (Nat.zero_lt_succ _) rfl
theorem dX11_marksBy_33 : decode cX11_marksBy 33 = .ok (.iload 4, 2) := dz1 (k := 1) (m := 2) dzc0_cX11_marksBy_32 di_52 (Nat.zero_lt_succ _) rfl
theorem dX11_marksBy_35 : decode cX11_marksBy 35 = .ok (.ishl, 1) := dz1 (k := 3) (m := 1) dzc0_cX11_marksBy_32 di_12 (Nat.zero_lt_succ _) rfl
theorem dX11_marksBy_36 : decode cX11_marksBy 36 = .ok (.goto 4, 3) := dz1 (k := 4) (m := 3) dzc0_cX11_marksBy_32 di_49 (Nat.zero_lt_succ _) rfl
theorem dX11_marksBy_39 : decode cX11_marksBy 39 = .ok (.iconst 0, 1) := dz1 (k := 7) (m := 1) dzc0_cX11_marksBy_32 di_8 (Nat.zero_lt_succ _) rfl
theorem dX11_marksBy_40 : decode cX11_marksBy 40 = .ok (.ior, 1) := dz1 (k := 8) (m := 1) dzc0_cX11_marksBy_32 di_62 (Nat.zero_lt_succ _) rfl
theorem dX11_marksBy_41 : decode cX11_marksBy 41 = .ok (.istore_n 3, 1) := dz1 (k := 9) (m := 1) dzc0_cX11_marksBy_32 di_50 (Nat.zero_lt_succ _) rfl
theorem dX11_marksBy_42 : decode cX11_marksBy 42 = .ok (.iinc 4 1, 3) := dz1 (k := 10) (m := 3) dzc0_cX11_marksBy_32 di_63 (Nat.zero_lt_succ _) rfl
theorem dX11_marksBy_45 : decode cX11_marksBy 45 = .ok (.goto (-40), 3) := dz1 (k := 13) (m := 3) dzc0_cX11_marksBy_32 di_588 (Nat.zero_lt_succ _) rfl
theorem dX11_marksBy_48 : decode cX11_marksBy 48 = .ok (.iload_n 3, 1) := dz1 (k := 16) (m := 1) dzc0_cX11_marksBy_32 di_3 (Nat.zero_lt_succ _) rfl
theorem dX11_marksBy_49 : decode cX11_marksBy 49 = .ok (.ireturn, 1) := dz1 (k := 17) (m := 1) dzc0_cX11_marksBy_32 di_13 (Nat.zero_lt_succ _) rfl
set_option maxRecDepth 100000 in
theorem dzc0_cX11_calls_0 : DzLies cX11_calls (.mk ⟨[0x03, 0x3e, 0x03, 0x36, 0x04, 0x15, 0x04, 0x2a, 0xb4, 0x00, 0x7c, 0xa2, 0x00, 0x5d, 0x2a, 0xb4, 0x00, 0x1a, 0x15, 0x04, 0x2e, 0x1c, 0x2a, 0xb4, 0x00, 0x26, 0x1b, 0x10, 0x07, 0x60, 0x2e, 0x2a]⟩) 0 := dz_lies (m := 32) (Nat.zero_lt_succ _) rfl
theorem dX11_calls_0 : decode cX11_calls 0 = .ok (.iconst 0, 1) := dz1 (k := 0) (m := 1) dzc0_cX11_calls_0 di_8 (Nat.zero_lt_succ _) rfl
theorem dX11_calls_1 : decode cX11_calls 1 = .ok (.istore_n 3, 1) := dz1 (k := 1) (m := 1) dzc0_cX11_calls_0 di_50 (Nat.zero_lt_succ _) rfl
theorem dX11_calls_2 : decode cX11_calls 2 = .ok (.iconst 0, 1) := dz1 (k := 2) (m := 1) dzc0_cX11_calls_0 di_8 (Nat.zero_lt_succ _) rfl
theorem dX11_calls_3 : decode cX11_calls 3 = .ok (.istore 4, 2) := dz1 (k := 3) (m := 2) dzc0_cX11_calls_0 di_51 (Nat.zero_lt_succ _) rfl
theorem dX11_calls_5 : decode cX11_calls 5 = .ok (.iload 4, 2) := dz1 (k := 5) (m := 2) dzc0_cX11_calls_0 di_52 (Nat.zero_lt_succ _) rfl
theorem dX11_calls_7 : decode cX11_calls 7 = .ok (.aload_n 0, 1) := dz1 (k := 7) (m := 1) dzc0_cX11_calls_0 di_0 (Nat.zero_lt_succ _) rfl
theorem dX11_calls_8 : decode cX11_calls 8 = .ok (.getfield 124, 3) := dz1 (k := 8) (m := 3) dzc0_cX11_calls_0 di_572 (Nat.zero_lt_succ _) rfl
theorem dX11_calls_11 : decode cX11_calls 11 = .ok (.if_icmp .ge 93, 3) := dz1 (k := 11) (m := 3) dzc0_cX11_calls_0 di_589 (Nat.zero_lt_succ _) rfl
theorem dX11_calls_14 : decode cX11_calls 14 = .ok (.aload_n 0, 1) := dz1 (k := 14) (m := 1) dzc0_cX11_calls_0 di_0 (Nat.zero_lt_succ _) rfl
theorem dX11_calls_15 : decode cX11_calls 15 = .ok (.getfield 26, 3) := dz1 (k := 15) (m := 3) dzc0_cX11_calls_0 di_573 (Nat.zero_lt_succ _) rfl
theorem dX11_calls_18 : decode cX11_calls 18 = .ok (.iload 4, 2) := dz1 (k := 18) (m := 2) dzc0_cX11_calls_0 di_52 (Nat.zero_lt_succ _) rfl
theorem dX11_calls_20 : decode cX11_calls 20 = .ok (.iaload, 1) := dz1 (k := 20) (m := 1) dzc0_cX11_calls_0 di_30 (Nat.zero_lt_succ _) rfl
theorem dX11_calls_21 : decode cX11_calls 21 = .ok (.iload_n 2, 1) := dz1 (k := 21) (m := 1) dzc0_cX11_calls_0 di_28 (Nat.zero_lt_succ _) rfl
theorem dX11_calls_22 : decode cX11_calls 22 = .ok (.aload_n 0, 1) := dz1 (k := 22) (m := 1) dzc0_cX11_calls_0 di_0 (Nat.zero_lt_succ _) rfl
theorem dX11_calls_23 : decode cX11_calls 23 = .ok (.getfield 38, 3) := dz1 (k := 23) (m := 3) dzc0_cX11_calls_0 di_574 (Nat.zero_lt_succ _) rfl
theorem dX11_calls_26 : decode cX11_calls 26 = .ok (.iload_n 1, 1) := dz1 (k := 26) (m := 1) dzc0_cX11_calls_0 di_11 (Nat.zero_lt_succ _) rfl
theorem dX11_calls_27 : decode cX11_calls 27 = .ok (.bipush 7, 2) := dz1 (k := 27) (m := 2) dzc0_cX11_calls_0 di_83 (Nat.zero_lt_succ _) rfl
theorem dX11_calls_29 : decode cX11_calls 29 = .ok (.iadd, 1) := dz1 (k := 29) (m := 1) dzc0_cX11_calls_0 di_24 (Nat.zero_lt_succ _) rfl
theorem dX11_calls_30 : decode cX11_calls 30 = .ok (.iaload, 1) := dz1 (k := 30) (m := 1) dzc0_cX11_calls_0 di_30 (Nat.zero_lt_succ _) rfl
theorem dX11_calls_31 : decode cX11_calls 31 = .ok (.aload_n 0, 1) := dz1 (k := 31) (m := 1) dzc0_cX11_calls_0 di_0 (Nat.zero_lt_succ _) rfl
set_option maxRecDepth 100000 in
theorem dzc0_cX11_calls_32 : DzLies cX11_calls (.mk ⟨[0xb4, 0x00, 0x26, 0x1b, 0x10, 0x06, 0x60, 0x2e, 0xb8, 0x00, 0x8e, 0x36, 0x05, 0x2a, 0xb4, 0x00, 0x26, 0x1b, 0x15, 0x04, 0x60, 0x5c, 0x2e, 0x2a, 0x15, 0x04, 0x15, 0x05, 0xb6, 0x00, 0x92, 0x80]⟩) 32 := dz_lies (m := 32) (Nat.zero_lt_succ _) rfl
theorem dX11_calls_32 : decode cX11_calls 32 = .ok (.getfield 38, 3) := dz1 (k := 0) (m := 3) dzc0_cX11_calls_32 di_574 (Nat.zero_lt_succ _) rfl
theorem dX11_calls_35 : decode cX11_calls 35 = .ok (.iload_n 1, 1) := dz1 (k := 3) (m := 1) dzc0_cX11_calls_32 di_11 (Nat.zero_lt_succ _) rfl
theorem dX11_calls_36 : decode cX11_calls 36 = .ok (.bipush 6, 2) := dz1 (k := 4) (m := 2) dzc0_cX11_calls_32 di_86 (Nat.zero_lt_succ _) rfl
theorem dX11_calls_38 : decode cX11_calls 38 = .ok (.iadd, 1) := dz1 (k := 6) (m := 1) dzc0_cX11_calls_32 di_24 (Nat.zero_lt_succ _) rfl
theorem dX11_calls_39 : decode cX11_calls 39 = .ok (.iaload, 1) := dz1 (k := 7) (m := 1) dzc0_cX11_calls_32 di_30 (Nat.zero_lt_succ _) rfl
theorem dX11_calls_40 : decode cX11_calls 40 = .ok (.invokestatic 142, 3) := dz1 (k := 8) (m := 3) dzc0_cX11_calls_32 di_590 (Nat.zero_lt_succ _) rfl
theorem dX11_calls_43 : decode cX11_calls 43 = .ok (.istore 5, 2) := dz1 (k := 11) (m := 2) dzc0_cX11_calls_32 di_100 (Nat.zero_lt_succ _) rfl
theorem dX11_calls_45 : decode cX11_calls 45 = .ok (.aload_n 0, 1) := dz1 (k := 13) (m := 1) dzc0_cX11_calls_32 di_0 (Nat.zero_lt_succ _) rfl
theorem dX11_calls_46 : decode cX11_calls 46 = .ok (.getfield 38, 3) := dz1 (k := 14) (m := 3) dzc0_cX11_calls_32 di_574 (Nat.zero_lt_succ _) rfl
theorem dX11_calls_49 : decode cX11_calls 49 = .ok (.iload_n 1, 1) := dz1 (k := 17) (m := 1) dzc0_cX11_calls_32 di_11 (Nat.zero_lt_succ _) rfl
theorem dX11_calls_50 : decode cX11_calls 50 = .ok (.iload 4, 2) := dz1 (k := 18) (m := 2) dzc0_cX11_calls_32 di_52 (Nat.zero_lt_succ _) rfl
theorem dX11_calls_52 : decode cX11_calls 52 = .ok (.iadd, 1) := dz1 (k := 20) (m := 1) dzc0_cX11_calls_32 di_24 (Nat.zero_lt_succ _) rfl
theorem dX11_calls_53 : decode cX11_calls 53 = .ok (.dup2, 1) := dz1 (k := 21) (m := 1) dzc0_cX11_calls_32 di_67 (Nat.zero_lt_succ _) rfl
theorem dX11_calls_54 : decode cX11_calls 54 = .ok (.iaload, 1) := dz1 (k := 22) (m := 1) dzc0_cX11_calls_32 di_30 (Nat.zero_lt_succ _) rfl
theorem dX11_calls_55 : decode cX11_calls 55 = .ok (.aload_n 0, 1) := dz1 (k := 23) (m := 1) dzc0_cX11_calls_32 di_0 (Nat.zero_lt_succ _) rfl
theorem dX11_calls_56 : decode cX11_calls 56 = .ok (.iload 4, 2) := dz1 (k := 24) (m := 2) dzc0_cX11_calls_32 di_52 (Nat.zero_lt_succ _) rfl
theorem dX11_calls_58 : decode cX11_calls 58 = .ok (.iload 5, 2) := dz1 (k := 26) (m := 2) dzc0_cX11_calls_32 di_101 (Nat.zero_lt_succ _) rfl
theorem dX11_calls_60 : decode cX11_calls 60 = .ok (.invokevirtual 146, 3) := dz1 (k := 28) (m := 3) dzc0_cX11_calls_32 di_591 (Nat.zero_lt_succ _) rfl
theorem dX11_calls_63 : decode cX11_calls 63 = .ok (.ior, 1) := dz1 (k := 31) (m := 1) dzc0_cX11_calls_32 di_62 (Nat.zero_lt_succ _) rfl
set_option maxRecDepth 100000 in
theorem dzc0_cX11_calls_64 : DzLies cX11_calls (.mk ⟨[0x4f, 0x1d, 0x2a, 0xb4, 0x00, 0x1a, 0x15, 0x04, 0x2e, 0x2a, 0xb4, 0x00, 0x26, 0x1b, 0x15, 0x04, 0x60, 0x2e, 0xb8, 0x00, 0x95, 0x9a, 0x00, 0x0a, 0x04, 0x15, 0x04, 0x78, 0xa7, 0x00, 0x04, 0x03]⟩) 64 := dz_lies (m := 32) (Nat.zero_lt_succ _) rfl
theorem dX11_calls_64 : decode cX11_calls 64 = .ok (.iastore, 1) := dz1 (k := 0) (m := 1) dzc0_cX11_calls_64 di_22 (Nat.zero_lt_succ _) rfl
theorem dX11_calls_65 : decode cX11_calls 65 = .ok (.iload_n 3, 1) := dz1 (k := 1) (m := 1) dzc0_cX11_calls_64 di_3 (Nat.zero_lt_succ _) rfl
theorem dX11_calls_66 : decode cX11_calls 66 = .ok (.aload_n 0, 1) := dz1 (k := 2) (m := 1) dzc0_cX11_calls_64 di_0 (Nat.zero_lt_succ _) rfl
theorem dX11_calls_67 : decode cX11_calls 67 = .ok (.getfield 26, 3) := dz1 (k := 3) (m := 3) dzc0_cX11_calls_64 di_573 (Nat.zero_lt_succ _) rfl
theorem dX11_calls_70 : decode cX11_calls 70 = .ok (.iload 4, 2) := dz1 (k := 6) (m := 2) dzc0_cX11_calls_64 di_52 (Nat.zero_lt_succ _) rfl
theorem dX11_calls_72 : decode cX11_calls 72 = .ok (.iaload, 1) := dz1 (k := 8) (m := 1) dzc0_cX11_calls_64 di_30 (Nat.zero_lt_succ _) rfl
theorem dX11_calls_73 : decode cX11_calls 73 = .ok (.aload_n 0, 1) := dz1 (k := 9) (m := 1) dzc0_cX11_calls_64 di_0 (Nat.zero_lt_succ _) rfl
theorem dX11_calls_74 : decode cX11_calls 74 = .ok (.getfield 38, 3) := dz1 (k := 10) (m := 3) dzc0_cX11_calls_64 di_574 (Nat.zero_lt_succ _) rfl
theorem dX11_calls_77 : decode cX11_calls 77 = .ok (.iload_n 1, 1) := dz1 (k := 13) (m := 1) dzc0_cX11_calls_64 di_11 (Nat.zero_lt_succ _) rfl
theorem dX11_calls_78 : decode cX11_calls 78 = .ok (.iload 4, 2) := dz1 (k := 14) (m := 2) dzc0_cX11_calls_64 di_52 (Nat.zero_lt_succ _) rfl
theorem dX11_calls_80 : decode cX11_calls 80 = .ok (.iadd, 1) := dz1 (k := 16) (m := 1) dzc0_cX11_calls_64 di_24 (Nat.zero_lt_succ _) rfl
theorem dX11_calls_81 : decode cX11_calls 81 = .ok (.iaload, 1) := dz1 (k := 17) (m := 1) dzc0_cX11_calls_64 di_30 (Nat.zero_lt_succ _) rfl
theorem dX11_calls_82 : decode cX11_calls 82 = .ok (.invokestatic 149, 3) := dz1 (k := 18) (m := 3) dzc0_cX11_calls_64 di_592 (Nat.zero_lt_succ _) rfl
theorem dX11_calls_85 : decode cX11_calls 85 = .ok (.ifCond .ne 10, 3) := dz1 (k := 21) (m := 3) dzc0_cX11_calls_64 di_338 (Nat.zero_lt_succ _) rfl
theorem dX11_calls_88 : decode cX11_calls 88 = .ok (.iconst 1, 1) := dz1 (k := 24) (m := 1) dzc0_cX11_calls_64 di_10 (Nat.zero_lt_succ _) rfl
theorem dX11_calls_89 : decode cX11_calls 89 = .ok (.iload 4, 2) := dz1 (k := 25) (m := 2) dzc0_cX11_calls_64 di_52 (Nat.zero_lt_succ _) rfl
theorem dX11_calls_91 : decode cX11_calls 91 = .ok (.ishl, 1) := dz1 (k := 27) (m := 1) dzc0_cX11_calls_64 di_12 (Nat.zero_lt_succ _) rfl
theorem dX11_calls_92 : decode cX11_calls 92 = .ok (.goto 4, 3) := dz1 (k := 28) (m := 3) dzc0_cX11_calls_64 di_49 (Nat.zero_lt_succ _) rfl
theorem dX11_calls_95 : decode cX11_calls 95 = .ok (.iconst 0, 1) := dz1 (k := 31) (m := 1) dzc0_cX11_calls_64 di_8 (Nat.zero_lt_succ _) rfl
set_option maxRecDepth 100000 in
theorem dzc0_cX11_calls_96 : DzLies cX11_calls (.mk ⟨[0x80, 0x3e, 0x84, 0x04, 0x01, 0xa7, 0xff, 0xa0, 0x1d, 0x2a, 0xb4, 0x00, 0x26, 0x1b, 0x07, 0x60, 0x2e, 0x02, 0x82, 0x7e, 0x36, 0x04, 0x2a, 0xb4, 0x00, 0x26, 0x1b, 0x07, 0x60, 0x5c, 0x2e, 0x1d]⟩) 96 := dz_lies (m := 32) (Nat.zero_lt_succ _) rfl
theorem dX11_calls_96 : decode cX11_calls 96 = .ok (.ior, 1) := dz1 (k := 0) (m := 1) dzc0_cX11_calls_96 di_62 (Nat.zero_lt_succ _) rfl
theorem dX11_calls_97 : decode cX11_calls 97 = .ok (.istore_n 3, 1) := dz1 (k := 1) (m := 1) dzc0_cX11_calls_96 di_50 (Nat.zero_lt_succ _) rfl
theorem dX11_calls_98 : decode cX11_calls 98 = .ok (.iinc 4 1, 3) := dz1 (k := 2) (m := 3) dzc0_cX11_calls_96 di_63 (Nat.zero_lt_succ _) rfl
theorem dX11_calls_101 : decode cX11_calls 101 = .ok (.goto (-96), 3) := dz1 (k := 5) (m := 3) dzc0_cX11_calls_96 di_593 (Nat.zero_lt_succ _) rfl
theorem dX11_calls_104 : decode cX11_calls 104 = .ok (.iload_n 3, 1) := dz1 (k := 8) (m := 1) dzc0_cX11_calls_96 di_3 (Nat.zero_lt_succ _) rfl
theorem dX11_calls_105 : decode cX11_calls 105 = .ok (.aload_n 0, 1) := dz1 (k := 9) (m := 1) dzc0_cX11_calls_96 di_0 (Nat.zero_lt_succ _) rfl
theorem dX11_calls_106 : decode cX11_calls 106 = .ok (.getfield 38, 3) := dz1 (k := 10) (m := 3) dzc0_cX11_calls_96 di_574 (Nat.zero_lt_succ _) rfl
theorem dX11_calls_109 : decode cX11_calls 109 = .ok (.iload_n 1, 1) := dz1 (k := 13) (m := 1) dzc0_cX11_calls_96 di_11 (Nat.zero_lt_succ _) rfl
theorem dX11_calls_110 : decode cX11_calls 110 = .ok (.iconst 4, 1) := dz1 (k := 14) (m := 1) dzc0_cX11_calls_96 di_33 (Nat.zero_lt_succ _) rfl
theorem dX11_calls_111 : decode cX11_calls 111 = .ok (.iadd, 1) := dz1 (k := 15) (m := 1) dzc0_cX11_calls_96 di_24 (Nat.zero_lt_succ _) rfl
theorem dX11_calls_112 : decode cX11_calls 112 = .ok (.iaload, 1) := dz1 (k := 16) (m := 1) dzc0_cX11_calls_96 di_30 (Nat.zero_lt_succ _) rfl
theorem dX11_calls_113 : decode cX11_calls 113 = .ok (.iconst (-1), 1) := dz1 (k := 17) (m := 1) dzc0_cX11_calls_96 di_65 (Nat.zero_lt_succ _) rfl
theorem dX11_calls_114 : decode cX11_calls 114 = .ok (.ixor, 1) := dz1 (k := 18) (m := 1) dzc0_cX11_calls_96 di_66 (Nat.zero_lt_succ _) rfl
theorem dX11_calls_115 : decode cX11_calls 115 = .ok (.iand, 1) := dz1 (k := 19) (m := 1) dzc0_cX11_calls_96 di_48 (Nat.zero_lt_succ _) rfl
theorem dX11_calls_116 : decode cX11_calls 116 = .ok (.istore 4, 2) := dz1 (k := 20) (m := 2) dzc0_cX11_calls_96 di_51 (Nat.zero_lt_succ _) rfl
theorem dX11_calls_118 : decode cX11_calls 118 = .ok (.aload_n 0, 1) := dz1 (k := 22) (m := 1) dzc0_cX11_calls_96 di_0 (Nat.zero_lt_succ _) rfl
theorem dX11_calls_119 : decode cX11_calls 119 = .ok (.getfield 38, 3) := dz1 (k := 23) (m := 3) dzc0_cX11_calls_96 di_574 (Nat.zero_lt_succ _) rfl
theorem dX11_calls_122 : decode cX11_calls 122 = .ok (.iload_n 1, 1) := dz1 (k := 26) (m := 1) dzc0_cX11_calls_96 di_11 (Nat.zero_lt_succ _) rfl
theorem dX11_calls_123 : decode cX11_calls 123 = .ok (.iconst 4, 1) := dz1 (k := 27) (m := 1) dzc0_cX11_calls_96 di_33 (Nat.zero_lt_succ _) rfl
theorem dX11_calls_124 : decode cX11_calls 124 = .ok (.iadd, 1) := dz1 (k := 28) (m := 1) dzc0_cX11_calls_96 di_24 (Nat.zero_lt_succ _) rfl
theorem dX11_calls_125 : decode cX11_calls 125 = .ok (.dup2, 1) := dz1 (k := 29) (m := 1) dzc0_cX11_calls_96 di_67 (Nat.zero_lt_succ _) rfl
theorem dX11_calls_126 : decode cX11_calls 126 = .ok (.iaload, 1) := dz1 (k := 30) (m := 1) dzc0_cX11_calls_96 di_30 (Nat.zero_lt_succ _) rfl
theorem dX11_calls_127 : decode cX11_calls 127 = .ok (.iload_n 3, 1) := dz1 (k := 31) (m := 1) dzc0_cX11_calls_96 di_3 (Nat.zero_lt_succ _) rfl
set_option maxRecDepth 100000 in
theorem dzc0_cX11_calls_128 : DzLies cX11_calls (.mk ⟨[0x80, 0x4f, 0x2a, 0xb4, 0x00, 0x26, 0x1b, 0x08, 0x60, 0x5c, 0x2e, 0x04, 0x1c, 0x78, 0x02, 0x82, 0x7e, 0x4f, 0x2a, 0xb4, 0x00, 0x26, 0x1b, 0x10, 0x06, 0x60, 0x5c, 0x2e, 0x04, 0x60, 0x4f, 0x2a]⟩) 128 := dz_lies (m := 32) (Nat.zero_lt_succ _) rfl
theorem dX11_calls_128 : decode cX11_calls 128 = .ok (.ior, 1) := dz1 (k := 0) (m := 1) dzc0_cX11_calls_128 di_62 (Nat.zero_lt_succ _) rfl
theorem dX11_calls_129 : decode cX11_calls 129 = .ok (.iastore, 1) := dz1 (k := 1) (m := 1) dzc0_cX11_calls_128 di_22 (Nat.zero_lt_succ _) rfl
theorem dX11_calls_130 : decode cX11_calls 130 = .ok (.aload_n 0, 1) := dz1 (k := 2) (m := 1) dzc0_cX11_calls_128 di_0 (Nat.zero_lt_succ _) rfl
theorem dX11_calls_131 : decode cX11_calls 131 = .ok (.getfield 38, 3) := dz1 (k := 3) (m := 3) dzc0_cX11_calls_128 di_574 (Nat.zero_lt_succ _) rfl
theorem dX11_calls_134 : decode cX11_calls 134 = .ok (.iload_n 1, 1) := dz1 (k := 6) (m := 1) dzc0_cX11_calls_128 di_11 (Nat.zero_lt_succ _) rfl
theorem dX11_calls_135 : decode cX11_calls 135 = .ok (.iconst 5, 1) := dz1 (k := 7) (m := 1) dzc0_cX11_calls_128 di_145 (Nat.zero_lt_succ _) rfl
theorem dX11_calls_136 : decode cX11_calls 136 = .ok (.iadd, 1) := dz1 (k := 8) (m := 1) dzc0_cX11_calls_128 di_24 (Nat.zero_lt_succ _) rfl
theorem dX11_calls_137 : decode cX11_calls 137 = .ok (.dup2, 1) := dz1 (k := 9) (m := 1) dzc0_cX11_calls_128 di_67 (Nat.zero_lt_succ _) rfl
theorem dX11_calls_138 : decode cX11_calls 138 = .ok (.iaload, 1) := dz1 (k := 10) (m := 1) dzc0_cX11_calls_128 di_30 (Nat.zero_lt_succ _) rfl
theorem dX11_calls_139 : decode cX11_calls 139 = .ok (.iconst 1, 1) := dz1 (k := 11) (m := 1) dzc0_cX11_calls_128 di_10 (Nat.zero_lt_succ _) rfl
theorem dX11_calls_140 : decode cX11_calls 140 = .ok (.iload_n 2, 1) := dz1 (k := 12) (m := 1) dzc0_cX11_calls_128 di_28 (Nat.zero_lt_succ _) rfl
theorem dX11_calls_141 : decode cX11_calls 141 = .ok (.ishl, 1) := dz1 (k := 13) (m := 1) dzc0_cX11_calls_128 di_12 (Nat.zero_lt_succ _) rfl
theorem dX11_calls_142 : decode cX11_calls 142 = .ok (.iconst (-1), 1) := dz1 (k := 14) (m := 1) dzc0_cX11_calls_128 di_65 (Nat.zero_lt_succ _) rfl
theorem dX11_calls_143 : decode cX11_calls 143 = .ok (.ixor, 1) := dz1 (k := 15) (m := 1) dzc0_cX11_calls_128 di_66 (Nat.zero_lt_succ _) rfl
theorem dX11_calls_144 : decode cX11_calls 144 = .ok (.iand, 1) := dz1 (k := 16) (m := 1) dzc0_cX11_calls_128 di_48 (Nat.zero_lt_succ _) rfl
theorem dX11_calls_145 : decode cX11_calls 145 = .ok (.iastore, 1) := dz1 (k := 17) (m := 1) dzc0_cX11_calls_128 di_22 (Nat.zero_lt_succ _) rfl
theorem dX11_calls_146 : decode cX11_calls 146 = .ok (.aload_n 0, 1) := dz1 (k := 18) (m := 1) dzc0_cX11_calls_128 di_0 (Nat.zero_lt_succ _) rfl
theorem dX11_calls_147 : decode cX11_calls 147 = .ok (.getfield 38, 3) := dz1 (k := 19) (m := 3) dzc0_cX11_calls_128 di_574 (Nat.zero_lt_succ _) rfl
theorem dX11_calls_150 : decode cX11_calls 150 = .ok (.iload_n 1, 1) := dz1 (k := 22) (m := 1) dzc0_cX11_calls_128 di_11 (Nat.zero_lt_succ _) rfl
theorem dX11_calls_151 : decode cX11_calls 151 = .ok (.bipush 6, 2) := dz1 (k := 23) (m := 2) dzc0_cX11_calls_128 di_86 (Nat.zero_lt_succ _) rfl
theorem dX11_calls_153 : decode cX11_calls 153 = .ok (.iadd, 1) := dz1 (k := 25) (m := 1) dzc0_cX11_calls_128 di_24 (Nat.zero_lt_succ _) rfl
theorem dX11_calls_154 : decode cX11_calls 154 = .ok (.dup2, 1) := dz1 (k := 26) (m := 1) dzc0_cX11_calls_128 di_67 (Nat.zero_lt_succ _) rfl
theorem dX11_calls_155 : decode cX11_calls 155 = .ok (.iaload, 1) := dz1 (k := 27) (m := 1) dzc0_cX11_calls_128 di_30 (Nat.zero_lt_succ _) rfl
theorem dX11_calls_156 : decode cX11_calls 156 = .ok (.iconst 1, 1) := dz1 (k := 28) (m := 1) dzc0_cX11_calls_128 di_10 (Nat.zero_lt_succ _) rfl
theorem dX11_calls_157 : decode cX11_calls 157 = .ok (.iadd, 1) := dz1 (k := 29) (m := 1) dzc0_cX11_calls_128 di_24 (Nat.zero_lt_succ _) rfl
theorem dX11_calls_158 : decode cX11_calls 158 = .ok (.iastore, 1) := dz1 (k := 30) (m := 1) dzc0_cX11_calls_128 di_22 (Nat.zero_lt_succ _) rfl
theorem dX11_calls_159 : decode cX11_calls 159 = .ok (.aload_n 0, 1) := dz1 (k := 31) (m := 1) dzc0_cX11_calls_128 di_0 (Nat.zero_lt_succ _) rfl
set_option maxRecDepth 100000 in
theorem dzc0_cX11_calls_160 : DzLies cX11_calls (.mk ⟨[0xb4, 0x00, 0x26, 0x1b, 0x10, 0x07, 0x60, 0x1c, 0x4f, 0x15, 0x04, 0xac]⟩) 160 := dz_lies (m := 12) (Nat.zero_lt_succ _) rfl
theorem dX11_calls_160 : decode cX11_calls 160 = .ok (.getfield 38, 3) := dz1 (k := 0) (m := 3) dzc0_cX11_calls_160 di_574 (Nat.zero_lt_succ _) rfl
theorem dX11_calls_163 : decode cX11_calls 163 = .ok (.iload_n 1, 1) := dz1 (k := 3) (m := 1) dzc0_cX11_calls_160 di_11 (Nat.zero_lt_succ _) rfl
theorem dX11_calls_164 : decode cX11_calls 164 = .ok (.bipush 7, 2) := dz1 (k := 4) (m := 2) dzc0_cX11_calls_160 di_83 (Nat.zero_lt_succ _) rfl
theorem dX11_calls_166 : decode cX11_calls 166 = .ok (.iadd, 1) := dz1 (k := 6) (m := 1) dzc0_cX11_calls_160 di_24 (Nat.zero_lt_succ _) rfl
theorem dX11_calls_167 : decode cX11_calls 167 = .ok (.iload_n 2, 1) := dz1 (k := 7) (m := 1) dzc0_cX11_calls_160 di_28 (Nat.zero_lt_succ _) rfl
theorem dX11_calls_168 : decode cX11_calls 168 = .ok (.iastore, 1) := dz1 (k := 8) (m := 1) dzc0_cX11_calls_160 di_22 (Nat.zero_lt_succ _) rfl
theorem dX11_calls_169 : decode cX11_calls 169 = .ok (.iload 4, 2) := dz1 (k := 9) (m := 2) dzc0_cX11_calls_160 di_52 (Nat.zero_lt_succ _) rfl
theorem dX11_calls_171 : decode cX11_calls 171 = .ok (.ireturn, 1) := dz1 (k := 11) (m := 1) dzc0_cX11_calls_160 di_13 (Nat.zero_lt_succ _) rfl
set_option maxRecDepth 100000 in
theorem dzc0_cX11_told_0 : DzLies cX11_told (.mk ⟨[0x1c, 0x9a, 0x00, 0x0c, 0x2a, 0xb4, 0x00, 0x1a, 0x1b, 0x2e, 0xa7, 0x00, 0x51, 0x1c, 0x04, 0xa0, 0x00, 0x0c, 0x2a, 0xb4, 0x00, 0x26, 0x1b, 0x2e, 0xa7, 0x00, 0x43, 0x1c, 0x05, 0xa0, 0x00, 0x10]⟩) 0 := dz_lies (m := 32) (Nat.zero_lt_succ _) rfl
theorem dX11_told_0 : decode cX11_told 0 = .ok (.iload_n 2, 1) := dz1 (k := 0) (m := 1) dzc0_cX11_told_0 di_28 (Nat.zero_lt_succ _) rfl
theorem dX11_told_1 : decode cX11_told 1 = .ok (.ifCond .ne 12, 3) := dz1 (k := 1) (m := 3) dzc0_cX11_told_0 di_570 (Nat.zero_lt_succ _) rfl
theorem dX11_told_4 : decode cX11_told 4 = .ok (.aload_n 0, 1) := dz1 (k := 4) (m := 1) dzc0_cX11_told_0 di_0 (Nat.zero_lt_succ _) rfl
theorem dX11_told_5 : decode cX11_told 5 = .ok (.getfield 26, 3) := dz1 (k := 5) (m := 3) dzc0_cX11_told_0 di_573 (Nat.zero_lt_succ _) rfl
theorem dX11_told_8 : decode cX11_told 8 = .ok (.iload_n 1, 1) := dz1 (k := 8) (m := 1) dzc0_cX11_told_0 di_11 (Nat.zero_lt_succ _) rfl
theorem dX11_told_9 : decode cX11_told 9 = .ok (.iaload, 1) := dz1 (k := 9) (m := 1) dzc0_cX11_told_0 di_30 (Nat.zero_lt_succ _) rfl
theorem dX11_told_10 : decode cX11_told 10 = .ok (.goto 81, 3) := dz1 (k := 10) (m := 3) dzc0_cX11_told_0 di_594 (Nat.zero_lt_succ _) rfl
theorem dX11_told_13 : decode cX11_told 13 = .ok (.iload_n 2, 1) := dz1 (k := 13) (m := 1) dzc0_cX11_told_0 di_28 (Nat.zero_lt_succ _) rfl
theorem dX11_told_14 : decode cX11_told 14 = .ok (.iconst 1, 1) := dz1 (k := 14) (m := 1) dzc0_cX11_told_0 di_10 (Nat.zero_lt_succ _) rfl
theorem dX11_told_15 : decode cX11_told 15 = .ok (.if_icmp .ne 12, 3) := dz1 (k := 15) (m := 3) dzc0_cX11_told_0 di_579 (Nat.zero_lt_succ _) rfl
theorem dX11_told_18 : decode cX11_told 18 = .ok (.aload_n 0, 1) := dz1 (k := 18) (m := 1) dzc0_cX11_told_0 di_0 (Nat.zero_lt_succ _) rfl
theorem dX11_told_19 : decode cX11_told 19 = .ok (.getfield 38, 3) := dz1 (k := 19) (m := 3) dzc0_cX11_told_0 di_574 (Nat.zero_lt_succ _) rfl
theorem dX11_told_22 : decode cX11_told 22 = .ok (.iload_n 1, 1) := dz1 (k := 22) (m := 1) dzc0_cX11_told_0 di_11 (Nat.zero_lt_succ _) rfl
theorem dX11_told_23 : decode cX11_told 23 = .ok (.iaload, 1) := dz1 (k := 23) (m := 1) dzc0_cX11_told_0 di_30 (Nat.zero_lt_succ _) rfl
theorem dX11_told_24 : decode cX11_told 24 = .ok (.goto 67, 3) := dz1 (k := 24) (m := 3) dzc0_cX11_told_0 di_595 (Nat.zero_lt_succ _) rfl
theorem dX11_told_27 : decode cX11_told 27 = .ok (.iload_n 2, 1) := dz1 (k := 27) (m := 1) dzc0_cX11_told_0 di_28 (Nat.zero_lt_succ _) rfl
theorem dX11_told_28 : decode cX11_told 28 = .ok (.iconst 2, 1) := dz1 (k := 28) (m := 1) dzc0_cX11_told_0 di_6 (Nat.zero_lt_succ _) rfl
theorem dX11_told_29 : decode cX11_told 29 = .ok (.if_icmp .ne 16, 3) := dz1 (k := 29) (m := 3) dzc0_cX11_told_0 di_596 (Nat.zero_lt_succ _) rfl
set_option maxRecDepth 100000 in
theorem dzc0_cX11_told_32 : DzLies cX11_told (.mk ⟨[0x2a, 0xb4, 0x00, 0x26, 0x07, 0x2e, 0x1b, 0x7a, 0x04, 0x7e, 0xa7, 0x00, 0x31, 0x1c, 0x06, 0xa0, 0x00, 0x1d, 0x2a, 0xb4, 0x00, 0x1a, 0x1b, 0x2e, 0x2a, 0xb4, 0x00, 0x26, 0x1b, 0x2e, 0xb8, 0x00, 0x95]⟩) 32 := dz_lies (m := 33) (Nat.zero_lt_succ _) rfl
theorem dX11_told_32 : decode cX11_told 32 = .ok (.aload_n 0, 1) := dz1 (k := 0) (m := 1) dzc0_cX11_told_32 di_0 (Nat.zero_lt_succ _) rfl
theorem dX11_told_33 : decode cX11_told 33 = .ok (.getfield 38, 3) := dz1 (k := 1) (m := 3) dzc0_cX11_told_32 di_574 (Nat.zero_lt_succ _) rfl
theorem dX11_told_36 : decode cX11_told 36 = .ok (.iconst 4, 1) := dz1 (k := 4) (m := 1) dzc0_cX11_told_32 di_33 (Nat.zero_lt_succ _) rfl
theorem dX11_told_37 : decode cX11_told 37 = .ok (.iaload, 1) := dz1 (k := 5) (m := 1) dzc0_cX11_told_32 di_30 (Nat.zero_lt_succ _) rfl
theorem dX11_told_38 : decode cX11_told 38 = .ok (.iload_n 1, 1) := dz1 (k := 6) (m := 1) dzc0_cX11_told_32 di_11 (Nat.zero_lt_succ _) rfl
theorem dX11_told_39 : decode cX11_told 39 = .ok (.ishr, 1) := dz1 (k := 7) (m := 1) dzc0_cX11_told_32 di_47 (Nat.zero_lt_succ _) rfl
theorem dX11_told_40 : decode cX11_told 40 = .ok (.iconst 1, 1) := dz1 (k := 8) (m := 1) dzc0_cX11_told_32 di_10 (Nat.zero_lt_succ _) rfl
theorem dX11_told_41 : decode cX11_told 41 = .ok (.iand, 1) := dz1 (k := 9) (m := 1) dzc0_cX11_told_32 di_48 (Nat.zero_lt_succ _) rfl
theorem dX11_told_42 : decode cX11_told 42 = .ok (.goto 49, 3) := dz1 (k := 10) (m := 3) dzc0_cX11_told_32 di_597 (Nat.zero_lt_succ _) rfl
theorem dX11_told_45 : decode cX11_told 45 = .ok (.iload_n 2, 1) := dz1 (k := 13) (m := 1) dzc0_cX11_told_32 di_28 (Nat.zero_lt_succ _) rfl
theorem dX11_told_46 : decode cX11_told 46 = .ok (.iconst 3, 1) := dz1 (k := 14) (m := 1) dzc0_cX11_told_32 di_4 (Nat.zero_lt_succ _) rfl
theorem dX11_told_47 : decode cX11_told 47 = .ok (.if_icmp .ne 29, 3) := dz1 (k := 15) (m := 3) dzc0_cX11_told_32 di_290 (Nat.zero_lt_succ _) rfl
theorem dX11_told_50 : decode cX11_told 50 = .ok (.aload_n 0, 1) := dz1 (k := 18) (m := 1) dzc0_cX11_told_32 di_0 (Nat.zero_lt_succ _) rfl
theorem dX11_told_51 : decode cX11_told 51 = .ok (.getfield 26, 3) := dz1 (k := 19) (m := 3) dzc0_cX11_told_32 di_573 (Nat.zero_lt_succ _) rfl
theorem dX11_told_54 : decode cX11_told 54 = .ok (.iload_n 1, 1) := dz1 (k := 22) (m := 1) dzc0_cX11_told_32 di_11 (Nat.zero_lt_succ _) rfl
theorem dX11_told_55 : decode cX11_told 55 = .ok (.iaload, 1) := dz1 (k := 23) (m := 1) dzc0_cX11_told_32 di_30 (Nat.zero_lt_succ _) rfl
theorem dX11_told_56 : decode cX11_told 56 = .ok (.aload_n 0, 1) := dz1 (k := 24) (m := 1) dzc0_cX11_told_32 di_0 (Nat.zero_lt_succ _) rfl
theorem dX11_told_57 : decode cX11_told 57 = .ok (.getfield 38, 3) := dz1 (k := 25) (m := 3) dzc0_cX11_told_32 di_574 (Nat.zero_lt_succ _) rfl
theorem dX11_told_60 : decode cX11_told 60 = .ok (.iload_n 1, 1) := dz1 (k := 28) (m := 1) dzc0_cX11_told_32 di_11 (Nat.zero_lt_succ _) rfl
theorem dX11_told_61 : decode cX11_told 61 = .ok (.iaload, 1) := dz1 (k := 29) (m := 1) dzc0_cX11_told_32 di_30 (Nat.zero_lt_succ _) rfl
theorem dX11_told_62 : decode cX11_told 62 = .ok (.invokestatic 149, 3) := dz1 (k := 30) (m := 3) dzc0_cX11_told_32 di_592 (Nat.zero_lt_succ _) rfl
set_option maxRecDepth 100000 in
theorem dzc0_cX11_told_64 : DzLies cX11_told (.mk ⟨[0x95, 0x9a, 0x00, 0x07, 0x04, 0xa7, 0x00, 0x16, 0x03, 0xa7, 0x00, 0x12, 0x2a, 0xb4, 0x00, 0x1a, 0x1b, 0x2e, 0x2a, 0xb4, 0x00, 0x26, 0x1b, 0x2e, 0xb8, 0x00, 0x95, 0xac]⟩) 64 := dz_lies (m := 28) (Nat.zero_lt_succ _) rfl
theorem dX11_told_65 : decode cX11_told 65 = .ok (.ifCond .ne 7, 3) := dz1 (k := 1) (m := 3) dzc0_cX11_told_64 di_37 (Nat.zero_lt_succ _) rfl
theorem dX11_told_68 : decode cX11_told 68 = .ok (.iconst 1, 1) := dz1 (k := 4) (m := 1) dzc0_cX11_told_64 di_10 (Nat.zero_lt_succ _) rfl
theorem dX11_told_69 : decode cX11_told 69 = .ok (.goto 22, 3) := dz1 (k := 5) (m := 3) dzc0_cX11_told_64 di_598 (Nat.zero_lt_succ _) rfl
theorem dX11_told_72 : decode cX11_told 72 = .ok (.iconst 0, 1) := dz1 (k := 8) (m := 1) dzc0_cX11_told_64 di_8 (Nat.zero_lt_succ _) rfl
theorem dX11_told_73 : decode cX11_told 73 = .ok (.goto 18, 3) := dz1 (k := 9) (m := 3) dzc0_cX11_told_64 di_599 (Nat.zero_lt_succ _) rfl
theorem dX11_told_76 : decode cX11_told 76 = .ok (.aload_n 0, 1) := dz1 (k := 12) (m := 1) dzc0_cX11_told_64 di_0 (Nat.zero_lt_succ _) rfl
theorem dX11_told_77 : decode cX11_told 77 = .ok (.getfield 26, 3) := dz1 (k := 13) (m := 3) dzc0_cX11_told_64 di_573 (Nat.zero_lt_succ _) rfl
theorem dX11_told_80 : decode cX11_told 80 = .ok (.iload_n 1, 1) := dz1 (k := 16) (m := 1) dzc0_cX11_told_64 di_11 (Nat.zero_lt_succ _) rfl
theorem dX11_told_81 : decode cX11_told 81 = .ok (.iaload, 1) := dz1 (k := 17) (m := 1) dzc0_cX11_told_64 di_30 (Nat.zero_lt_succ _) rfl
theorem dX11_told_82 : decode cX11_told 82 = .ok (.aload_n 0, 1) := dz1 (k := 18) (m := 1) dzc0_cX11_told_64 di_0 (Nat.zero_lt_succ _) rfl
theorem dX11_told_83 : decode cX11_told 83 = .ok (.getfield 38, 3) := dz1 (k := 19) (m := 3) dzc0_cX11_told_64 di_574 (Nat.zero_lt_succ _) rfl
theorem dX11_told_86 : decode cX11_told 86 = .ok (.iload_n 1, 1) := dz1 (k := 22) (m := 1) dzc0_cX11_told_64 di_11 (Nat.zero_lt_succ _) rfl
theorem dX11_told_87 : decode cX11_told 87 = .ok (.iaload, 1) := dz1 (k := 23) (m := 1) dzc0_cX11_told_64 di_30 (Nat.zero_lt_succ _) rfl
theorem dX11_told_88 : decode cX11_told 88 = .ok (.invokestatic 149, 3) := dz1 (k := 24) (m := 3) dzc0_cX11_told_64 di_592 (Nat.zero_lt_succ _) rfl
theorem dX11_told_91 : decode cX11_told 91 = .ok (.ireturn, 1) := dz1 (k := 27) (m := 1) dzc0_cX11_told_64 di_13 (Nat.zero_lt_succ _) rfl
set_option maxRecDepth 100000 in
theorem dzc0_cX11_player_0 : DzLies cX11_player (.mk ⟨[0x2a, 0x1b, 0xb6, 0x00, 0x98, 0x99, 0x00, 0x1c, 0x1c, 0x85, 0x09, 0x14, 0x00, 0x9b, 0xb8, 0x00, 0x45, 0x99, 0x00, 0x10, 0x2a, 0x2a, 0x1b, 0x1c, 0xb6, 0x00, 0x9d, 0xb6, 0x00, 0x57, 0xa7, 0x00, 0x04]⟩) 0 := dz_lies (m := 33) (Nat.zero_lt_succ _) rfl
theorem dX11_player_0 : decode cX11_player 0 = .ok (.aload_n 0, 1) := dz1 (k := 0) (m := 1) dzc0_cX11_player_0 di_0 (Nat.zero_lt_succ _) rfl
theorem dX11_player_1 : decode cX11_player 1 = .ok (.iload_n 1, 1) := dz1 (k := 1) (m := 1) dzc0_cX11_player_0 di_11 (Nat.zero_lt_succ _) rfl
theorem dX11_player_2 : decode cX11_player 2 = .ok (.invokevirtual 152, 3) := dz1 (k := 2) (m := 3) dzc0_cX11_player_0 di_600 (Nat.zero_lt_succ _) rfl
theorem dX11_player_5 : decode cX11_player 5 = .ok (.ifCond .eq 28, 3) := dz1 (k := 5) (m := 3) dzc0_cX11_player_0 di_440 (Nat.zero_lt_succ _) rfl
theorem dX11_player_8 : decode cX11_player 8 = .ok (.iload_n 2, 1) := dz1 (k := 8) (m := 1) dzc0_cX11_player_0 di_28 (Nat.zero_lt_succ _) rfl
theorem dX11_player_9 : decode cX11_player 9 = .ok (.i2l, 1) := dz1 (k := 9) (m := 1) dzc0_cX11_player_0 di_250 (Nat.zero_lt_succ _) rfl
theorem dX11_player_10 : decode cX11_player 10 = .ok (.lconst 0, 1) := dz1 (k := 10) (m := 1) dzc0_cX11_player_0 di_246 (Nat.zero_lt_succ _) rfl
theorem dX11_player_11 : decode cX11_player 11 = .ok (.ldc2_w 155, 3) := dz1 (k := 11) (m := 3) dzc0_cX11_player_0 di_601 (Nat.zero_lt_succ _) rfl
theorem dX11_player_14 : decode cX11_player 14 = .ok (.invokestatic 69, 3) := dz1 (k := 14) (m := 3) dzc0_cX11_player_0 di_522 (Nat.zero_lt_succ _) rfl
theorem dX11_player_17 : decode cX11_player 17 = .ok (.ifCond .eq 16, 3) := dz1 (k := 17) (m := 3) dzc0_cX11_player_0 di_476 (Nat.zero_lt_succ _) rfl
theorem dX11_player_20 : decode cX11_player 20 = .ok (.aload_n 0, 1) := dz1 (k := 20) (m := 1) dzc0_cX11_player_0 di_0 (Nat.zero_lt_succ _) rfl
theorem dX11_player_21 : decode cX11_player 21 = .ok (.aload_n 0, 1) := dz1 (k := 21) (m := 1) dzc0_cX11_player_0 di_0 (Nat.zero_lt_succ _) rfl
theorem dX11_player_22 : decode cX11_player 22 = .ok (.iload_n 1, 1) := dz1 (k := 22) (m := 1) dzc0_cX11_player_0 di_11 (Nat.zero_lt_succ _) rfl
theorem dX11_player_23 : decode cX11_player 23 = .ok (.iload_n 2, 1) := dz1 (k := 23) (m := 1) dzc0_cX11_player_0 di_28 (Nat.zero_lt_succ _) rfl
theorem dX11_player_24 : decode cX11_player 24 = .ok (.invokevirtual 157, 3) := dz1 (k := 24) (m := 3) dzc0_cX11_player_0 di_602 (Nat.zero_lt_succ _) rfl
theorem dX11_player_27 : decode cX11_player 27 = .ok (.invokevirtual 87, 3) := dz1 (k := 27) (m := 3) dzc0_cX11_player_0 di_228 (Nat.zero_lt_succ _) rfl
theorem dX11_player_30 : decode cX11_player 30 = .ok (.goto 4, 3) := dz1 (k := 30) (m := 3) dzc0_cX11_player_0 di_49 (Nat.zero_lt_succ _) rfl
set_option maxRecDepth 100000 in
theorem dzc0_cX11_player_32 : DzLies cX11_player (.mk ⟨[0x04, 0x02, 0xac]⟩) 32 := dz_lies (m := 3) (Nat.zero_lt_succ _) rfl
theorem dX11_player_33 : decode cX11_player 33 = .ok (.iconst (-1), 1) := dz1 (k := 1) (m := 1) dzc0_cX11_player_32 di_65 (Nat.zero_lt_succ _) rfl
theorem dX11_player_34 : decode cX11_player 34 = .ok (.ireturn, 1) := dz1 (k := 2) (m := 1) dzc0_cX11_player_32 di_13 (Nat.zero_lt_succ _) rfl
set_option maxRecDepth 100000 in
theorem dzc0_cX11_card_0 : DzLies cX11_card (.mk ⟨[0x2a, 0x1b, 0xb6, 0x00, 0x98, 0x99, 0x00, 0x21, 0x1c, 0x85, 0x09, 0x14, 0x00, 0x43, 0xb8, 0x00, 0x45, 0x99, 0x00, 0x15, 0x2a, 0x2a, 0xb4, 0x00, 0x1d, 0x10, 0x06, 0x1b, 0x68, 0x1c, 0x60, 0x2e]⟩) 0 := dz_lies (m := 32) (Nat.zero_lt_succ _) rfl
theorem dX11_card_0 : decode cX11_card 0 = .ok (.aload_n 0, 1) := dz1 (k := 0) (m := 1) dzc0_cX11_card_0 di_0 (Nat.zero_lt_succ _) rfl
theorem dX11_card_1 : decode cX11_card 1 = .ok (.iload_n 1, 1) := dz1 (k := 1) (m := 1) dzc0_cX11_card_0 di_11 (Nat.zero_lt_succ _) rfl
theorem dX11_card_2 : decode cX11_card 2 = .ok (.invokevirtual 152, 3) := dz1 (k := 2) (m := 3) dzc0_cX11_card_0 di_600 (Nat.zero_lt_succ _) rfl
theorem dX11_card_5 : decode cX11_card 5 = .ok (.ifCond .eq 33, 3) := dz1 (k := 5) (m := 3) dzc0_cX11_card_0 di_603 (Nat.zero_lt_succ _) rfl
theorem dX11_card_8 : decode cX11_card 8 = .ok (.iload_n 2, 1) := dz1 (k := 8) (m := 1) dzc0_cX11_card_0 di_28 (Nat.zero_lt_succ _) rfl
theorem dX11_card_9 : decode cX11_card 9 = .ok (.i2l, 1) := dz1 (k := 9) (m := 1) dzc0_cX11_card_0 di_250 (Nat.zero_lt_succ _) rfl
theorem dX11_card_10 : decode cX11_card 10 = .ok (.lconst 0, 1) := dz1 (k := 10) (m := 1) dzc0_cX11_card_0 di_246 (Nat.zero_lt_succ _) rfl
theorem dX11_card_11 : decode cX11_card 11 = .ok (.ldc2_w 67, 3) := dz1 (k := 11) (m := 3) dzc0_cX11_card_0 di_521 (Nat.zero_lt_succ _) rfl
theorem dX11_card_14 : decode cX11_card 14 = .ok (.invokestatic 69, 3) := dz1 (k := 14) (m := 3) dzc0_cX11_card_0 di_522 (Nat.zero_lt_succ _) rfl
theorem dX11_card_17 : decode cX11_card 17 = .ok (.ifCond .eq 21, 3) := dz1 (k := 17) (m := 3) dzc0_cX11_card_0 di_318 (Nat.zero_lt_succ _) rfl
theorem dX11_card_20 : decode cX11_card 20 = .ok (.aload_n 0, 1) := dz1 (k := 20) (m := 1) dzc0_cX11_card_0 di_0 (Nat.zero_lt_succ _) rfl
theorem dX11_card_21 : decode cX11_card 21 = .ok (.aload_n 0, 1) := dz1 (k := 21) (m := 1) dzc0_cX11_card_0 di_0 (Nat.zero_lt_succ _) rfl
theorem dX11_card_22 : decode cX11_card 22 = .ok (.getfield 29, 3) := dz1 (k := 22) (m := 3) dzc0_cX11_card_0 di_36 (Nat.zero_lt_succ _) rfl
theorem dX11_card_25 : decode cX11_card 25 = .ok (.bipush 6, 2) := dz1 (k := 25) (m := 2) dzc0_cX11_card_0 di_86 (Nat.zero_lt_succ _) rfl
theorem dX11_card_27 : decode cX11_card 27 = .ok (.iload_n 1, 1) := dz1 (k := 27) (m := 1) dzc0_cX11_card_0 di_11 (Nat.zero_lt_succ _) rfl
theorem dX11_card_28 : decode cX11_card 28 = .ok (.imul, 1) := dz1 (k := 28) (m := 1) dzc0_cX11_card_0 di_113 (Nat.zero_lt_succ _) rfl
theorem dX11_card_29 : decode cX11_card 29 = .ok (.iload_n 2, 1) := dz1 (k := 29) (m := 1) dzc0_cX11_card_0 di_28 (Nat.zero_lt_succ _) rfl
theorem dX11_card_30 : decode cX11_card 30 = .ok (.iadd, 1) := dz1 (k := 30) (m := 1) dzc0_cX11_card_0 di_24 (Nat.zero_lt_succ _) rfl
theorem dX11_card_31 : decode cX11_card 31 = .ok (.iaload, 1) := dz1 (k := 31) (m := 1) dzc0_cX11_card_0 di_30 (Nat.zero_lt_succ _) rfl
set_option maxRecDepth 100000 in
theorem dzc0_cX11_card_32 : DzLies cX11_card (.mk ⟨[0xb6, 0x00, 0x57, 0xa7, 0x00, 0x04, 0x02, 0xac]⟩) 32 := dz_lies (m := 8) (Nat.zero_lt_succ _) rfl
theorem dX11_card_32 : decode cX11_card 32 = .ok (.invokevirtual 87, 3) := dz1 (k := 0) (m := 3) dzc0_cX11_card_32 di_228 (Nat.zero_lt_succ _) rfl
theorem dX11_card_35 : decode cX11_card 35 = .ok (.goto 4, 3) := dz1 (k := 3) (m := 3) dzc0_cX11_card_32 di_49 (Nat.zero_lt_succ _) rfl
theorem dX11_card_38 : decode cX11_card 38 = .ok (.iconst (-1), 1) := dz1 (k := 6) (m := 1) dzc0_cX11_card_32 di_65 (Nat.zero_lt_succ _) rfl
theorem dX11_card_39 : decode cX11_card 39 = .ok (.ireturn, 1) := dz1 (k := 7) (m := 1) dzc0_cX11_card_32 di_13 (Nat.zero_lt_succ _) rfl
set_option maxRecDepth 100000 in
theorem dzc0_cX11_mark_0 : DzLies cX11_mark (.mk ⟨[0x2a, 0x1b, 0xb6, 0x00, 0x98, 0x99, 0x00, 0x0f, 0x1c, 0x85, 0x0a, 0x14, 0x00, 0x43, 0xb8, 0x00, 0x45, 0x9a, 0x00, 0x05, 0x02, 0xac, 0x2a, 0xb4, 0x00, 0x1a, 0x1b, 0x2e, 0x1c, 0xb8, 0x00, 0x82]⟩) 0 := dz_lies (m := 32) (Nat.zero_lt_succ _) rfl
theorem dX11_mark_0 : decode cX11_mark 0 = .ok (.aload_n 0, 1) := dz1 (k := 0) (m := 1) dzc0_cX11_mark_0 di_0 (Nat.zero_lt_succ _) rfl
theorem dX11_mark_1 : decode cX11_mark 1 = .ok (.iload_n 1, 1) := dz1 (k := 1) (m := 1) dzc0_cX11_mark_0 di_11 (Nat.zero_lt_succ _) rfl
theorem dX11_mark_2 : decode cX11_mark 2 = .ok (.invokevirtual 152, 3) := dz1 (k := 2) (m := 3) dzc0_cX11_mark_0 di_600 (Nat.zero_lt_succ _) rfl
theorem dX11_mark_5 : decode cX11_mark 5 = .ok (.ifCond .eq 15, 3) := dz1 (k := 5) (m := 3) dzc0_cX11_mark_0 di_242 (Nat.zero_lt_succ _) rfl
theorem dX11_mark_8 : decode cX11_mark 8 = .ok (.iload_n 2, 1) := dz1 (k := 8) (m := 1) dzc0_cX11_mark_0 di_28 (Nat.zero_lt_succ _) rfl
theorem dX11_mark_9 : decode cX11_mark 9 = .ok (.i2l, 1) := dz1 (k := 9) (m := 1) dzc0_cX11_mark_0 di_250 (Nat.zero_lt_succ _) rfl
theorem dX11_mark_10 : decode cX11_mark 10 = .ok (.lconst 1, 1) := dz1 (k := 10) (m := 1) dzc0_cX11_mark_0 di_217 (Nat.zero_lt_succ _) rfl
theorem dX11_mark_11 : decode cX11_mark 11 = .ok (.ldc2_w 67, 3) := dz1 (k := 11) (m := 3) dzc0_cX11_mark_0 di_521 (Nat.zero_lt_succ _) rfl
theorem dX11_mark_14 : decode cX11_mark 14 = .ok (.invokestatic 69, 3) := dz1 (k := 14) (m := 3) dzc0_cX11_mark_0 di_522 (Nat.zero_lt_succ _) rfl
theorem dX11_mark_17 : decode cX11_mark 17 = .ok (.ifCond .ne 5, 3) := dz1 (k := 17) (m := 3) dzc0_cX11_mark_0 di_239 (Nat.zero_lt_succ _) rfl
theorem dX11_mark_20 : decode cX11_mark 20 = .ok (.iconst (-1), 1) := dz1 (k := 20) (m := 1) dzc0_cX11_mark_0 di_65 (Nat.zero_lt_succ _) rfl
theorem dX11_mark_21 : decode cX11_mark 21 = .ok (.ireturn, 1) := dz1 (k := 21) (m := 1) dzc0_cX11_mark_0 di_13 (Nat.zero_lt_succ _) rfl
theorem dX11_mark_22 : decode cX11_mark 22 = .ok (.aload_n 0, 1) := dz1 (k := 22) (m := 1) dzc0_cX11_mark_0 di_0 (Nat.zero_lt_succ _) rfl
theorem dX11_mark_23 : decode cX11_mark 23 = .ok (.getfield 26, 3) := dz1 (k := 23) (m := 3) dzc0_cX11_mark_0 di_573 (Nat.zero_lt_succ _) rfl
theorem dX11_mark_26 : decode cX11_mark 26 = .ok (.iload_n 1, 1) := dz1 (k := 26) (m := 1) dzc0_cX11_mark_0 di_11 (Nat.zero_lt_succ _) rfl
theorem dX11_mark_27 : decode cX11_mark 27 = .ok (.iaload, 1) := dz1 (k := 27) (m := 1) dzc0_cX11_mark_0 di_30 (Nat.zero_lt_succ _) rfl
theorem dX11_mark_28 : decode cX11_mark 28 = .ok (.iload_n 2, 1) := dz1 (k := 28) (m := 1) dzc0_cX11_mark_0 di_28 (Nat.zero_lt_succ _) rfl
theorem dX11_mark_29 : decode cX11_mark 29 = .ok (.invokestatic 130, 3) := dz1 (k := 29) (m := 3) dzc0_cX11_mark_0 di_581 (Nat.zero_lt_succ _) rfl
set_option maxRecDepth 100000 in
theorem dzc0_cX11_mark_32 : DzLies cX11_mark (.mk ⟨[0x9a, 0x00, 0x09, 0x2a, 0x06, 0xb6, 0x00, 0x4f, 0xac, 0x2a, 0xb4, 0x00, 0x26, 0x1b, 0x2e, 0x3e, 0x1c, 0x04, 0xa0, 0x00, 0x0b, 0x10, 0x06, 0x1d, 0xb8, 0x00, 0x85, 0x64, 0xac, 0x1c, 0x05, 0xa0, 0x00, 0x0f]⟩) 32 := dz_lies (m := 34) (Nat.zero_lt_succ _) rfl
theorem dX11_mark_32 : decode cX11_mark 32 = .ok (.ifCond .ne 9, 3) := dz1 (k := 0) (m := 3) dzc0_cX11_mark_32 di_243 (Nat.zero_lt_succ _) rfl
theorem dX11_mark_35 : decode cX11_mark 35 = .ok (.aload_n 0, 1) := dz1 (k := 3) (m := 1) dzc0_cX11_mark_32 di_0 (Nat.zero_lt_succ _) rfl
theorem dX11_mark_36 : decode cX11_mark 36 = .ok (.iconst 3, 1) := dz1 (k := 4) (m := 1) dzc0_cX11_mark_32 di_4 (Nat.zero_lt_succ _) rfl
theorem dX11_mark_37 : decode cX11_mark 37 = .ok (.invokevirtual 79, 3) := dz1 (k := 5) (m := 3) dzc0_cX11_mark_32 di_526 (Nat.zero_lt_succ _) rfl
theorem dX11_mark_40 : decode cX11_mark 40 = .ok (.ireturn, 1) := dz1 (k := 8) (m := 1) dzc0_cX11_mark_32 di_13 (Nat.zero_lt_succ _) rfl
theorem dX11_mark_41 : decode cX11_mark 41 = .ok (.aload_n 0, 1) := dz1 (k := 9) (m := 1) dzc0_cX11_mark_32 di_0 (Nat.zero_lt_succ _) rfl
theorem dX11_mark_42 : decode cX11_mark 42 = .ok (.getfield 38, 3) := dz1 (k := 10) (m := 3) dzc0_cX11_mark_32 di_574 (Nat.zero_lt_succ _) rfl
theorem dX11_mark_45 : decode cX11_mark 45 = .ok (.iload_n 1, 1) := dz1 (k := 13) (m := 1) dzc0_cX11_mark_32 di_11 (Nat.zero_lt_succ _) rfl
theorem dX11_mark_46 : decode cX11_mark 46 = .ok (.iaload, 1) := dz1 (k := 14) (m := 1) dzc0_cX11_mark_32 di_30 (Nat.zero_lt_succ _) rfl
theorem dX11_mark_47 : decode cX11_mark 47 = .ok (.istore_n 3, 1) := dz1 (k := 15) (m := 1) dzc0_cX11_mark_32 di_50 (Nat.zero_lt_succ _) rfl
theorem dX11_mark_48 : decode cX11_mark 48 = .ok (.iload_n 2, 1) := dz1 (k := 16) (m := 1) dzc0_cX11_mark_32 di_28 (Nat.zero_lt_succ _) rfl
theorem dX11_mark_49 : decode cX11_mark 49 = .ok (.iconst 1, 1) := dz1 (k := 17) (m := 1) dzc0_cX11_mark_32 di_10 (Nat.zero_lt_succ _) rfl
theorem dX11_mark_50 : decode cX11_mark 50 = .ok (.if_icmp .ne 11, 3) := dz1 (k := 18) (m := 3) dzc0_cX11_mark_32 di_604 (Nat.zero_lt_succ _) rfl
theorem dX11_mark_53 : decode cX11_mark 53 = .ok (.bipush 6, 2) := dz1 (k := 21) (m := 2) dzc0_cX11_mark_32 di_86 (Nat.zero_lt_succ _) rfl
theorem dX11_mark_55 : decode cX11_mark 55 = .ok (.iload_n 3, 1) := dz1 (k := 23) (m := 1) dzc0_cX11_mark_32 di_3 (Nat.zero_lt_succ _) rfl
theorem dX11_mark_56 : decode cX11_mark 56 = .ok (.invokestatic 133, 3) := dz1 (k := 24) (m := 3) dzc0_cX11_mark_32 di_582 (Nat.zero_lt_succ _) rfl
theorem dX11_mark_59 : decode cX11_mark 59 = .ok (.isub, 1) := dz1 (k := 27) (m := 1) dzc0_cX11_mark_32 di_14 (Nat.zero_lt_succ _) rfl
theorem dX11_mark_60 : decode cX11_mark 60 = .ok (.ireturn, 1) := dz1 (k := 28) (m := 1) dzc0_cX11_mark_32 di_13 (Nat.zero_lt_succ _) rfl
theorem dX11_mark_61 : decode cX11_mark 61 = .ok (.iload_n 2, 1) := dz1 (k := 29) (m := 1) dzc0_cX11_mark_32 di_28 (Nat.zero_lt_succ _) rfl
theorem dX11_mark_62 : decode cX11_mark 62 = .ok (.iconst 2, 1) := dz1 (k := 30) (m := 1) dzc0_cX11_mark_32 di_6 (Nat.zero_lt_succ _) rfl
theorem dX11_mark_63 : decode cX11_mark 63 = .ok (.if_icmp .ne 15, 3) := dz1 (k := 31) (m := 3) dzc0_cX11_mark_32 di_580 (Nat.zero_lt_succ _) rfl
set_option maxRecDepth 100000 in
theorem dzc0_cX11_mark_64 : DzLies cX11_mark (.mk ⟨[0x00, 0x0f, 0x05, 0x2a, 0xb4, 0x00, 0x26, 0x10, 0x06, 0x2e, 0x06, 0x70, 0x64, 0xac, 0x1c, 0x06, 0xa0, 0x00, 0x24, 0x1d, 0x10, 0x07, 0x7e, 0xb8, 0x00, 0x85, 0x04, 0xa4, 0x00, 0x07, 0x04, 0xa7, 0x00, 0x04]⟩) 64 := dz_lies (m := 34) (Nat.zero_lt_succ _) rfl
theorem dX11_mark_66 : decode cX11_mark 66 = .ok (.iconst 2, 1) := dz1 (k := 2) (m := 1) dzc0_cX11_mark_64 di_6 (Nat.zero_lt_succ _) rfl
theorem dX11_mark_67 : decode cX11_mark 67 = .ok (.aload_n 0, 1) := dz1 (k := 3) (m := 1) dzc0_cX11_mark_64 di_0 (Nat.zero_lt_succ _) rfl
theorem dX11_mark_68 : decode cX11_mark 68 = .ok (.getfield 38, 3) := dz1 (k := 4) (m := 3) dzc0_cX11_mark_64 di_574 (Nat.zero_lt_succ _) rfl
theorem dX11_mark_71 : decode cX11_mark 71 = .ok (.bipush 6, 2) := dz1 (k := 7) (m := 2) dzc0_cX11_mark_64 di_86 (Nat.zero_lt_succ _) rfl
theorem dX11_mark_73 : decode cX11_mark 73 = .ok (.iaload, 1) := dz1 (k := 9) (m := 1) dzc0_cX11_mark_64 di_30 (Nat.zero_lt_succ _) rfl
theorem dX11_mark_74 : decode cX11_mark 74 = .ok (.iconst 3, 1) := dz1 (k := 10) (m := 1) dzc0_cX11_mark_64 di_4 (Nat.zero_lt_succ _) rfl
theorem dX11_mark_75 : decode cX11_mark 75 = .ok (.irem, 1) := dz1 (k := 11) (m := 1) dzc0_cX11_mark_64 di_5 (Nat.zero_lt_succ _) rfl
theorem dX11_mark_76 : decode cX11_mark 76 = .ok (.isub, 1) := dz1 (k := 12) (m := 1) dzc0_cX11_mark_64 di_14 (Nat.zero_lt_succ _) rfl
theorem dX11_mark_77 : decode cX11_mark 77 = .ok (.ireturn, 1) := dz1 (k := 13) (m := 1) dzc0_cX11_mark_64 di_13 (Nat.zero_lt_succ _) rfl
theorem dX11_mark_78 : decode cX11_mark 78 = .ok (.iload_n 2, 1) := dz1 (k := 14) (m := 1) dzc0_cX11_mark_64 di_28 (Nat.zero_lt_succ _) rfl
theorem dX11_mark_79 : decode cX11_mark 79 = .ok (.iconst 3, 1) := dz1 (k := 15) (m := 1) dzc0_cX11_mark_64 di_4 (Nat.zero_lt_succ _) rfl
theorem dX11_mark_80 : decode cX11_mark 80 = .ok (.if_icmp .ne 36, 3) := dz1 (k := 16) (m := 3) dzc0_cX11_mark_64 di_605 (Nat.zero_lt_succ _) rfl
theorem dX11_mark_83 : decode cX11_mark 83 = .ok (.iload_n 3, 1) := dz1 (k := 19) (m := 1) dzc0_cX11_mark_64 di_3 (Nat.zero_lt_succ _) rfl
theorem dX11_mark_84 : decode cX11_mark 84 = .ok (.bipush 7, 2) := dz1 (k := 20) (m := 2) dzc0_cX11_mark_64 di_83 (Nat.zero_lt_succ _) rfl
theorem dX11_mark_86 : decode cX11_mark 86 = .ok (.iand, 1) := dz1 (k := 22) (m := 1) dzc0_cX11_mark_64 di_48 (Nat.zero_lt_succ _) rfl
theorem dX11_mark_87 : decode cX11_mark 87 = .ok (.invokestatic 133, 3) := dz1 (k := 23) (m := 3) dzc0_cX11_mark_64 di_582 (Nat.zero_lt_succ _) rfl
theorem dX11_mark_90 : decode cX11_mark 90 = .ok (.iconst 1, 1) := dz1 (k := 26) (m := 1) dzc0_cX11_mark_64 di_10 (Nat.zero_lt_succ _) rfl
theorem dX11_mark_91 : decode cX11_mark 91 = .ok (.if_icmp .le 7, 3) := dz1 (k := 27) (m := 3) dzc0_cX11_mark_64 di_606 (Nat.zero_lt_succ _) rfl
theorem dX11_mark_94 : decode cX11_mark 94 = .ok (.iconst 1, 1) := dz1 (k := 30) (m := 1) dzc0_cX11_mark_64 di_10 (Nat.zero_lt_succ _) rfl
theorem dX11_mark_95 : decode cX11_mark 95 = .ok (.goto 4, 3) := dz1 (k := 31) (m := 3) dzc0_cX11_mark_64 di_49 (Nat.zero_lt_succ _) rfl
set_option maxRecDepth 100000 in
theorem dzc0_cX11_mark_96 : DzLies cX11_mark (.mk ⟨[0x00, 0x04, 0x03, 0x1d, 0x06, 0x7a, 0xb8, 0x00, 0x85, 0x04, 0xa4, 0x00, 0x07, 0x04, 0xa7, 0x00, 0x04, 0x03, 0x60, 0xac, 0x1c, 0x07, 0xa0, 0x00, 0x0b, 0x2a, 0xb4, 0x00, 0x26, 0x10, 0x07]⟩) 96 := dz_lies (m := 31) (Nat.zero_lt_succ _) rfl
theorem dX11_mark_98 : decode cX11_mark 98 = .ok (.iconst 0, 1) := dz1 (k := 2) (m := 1) dzc0_cX11_mark_96 di_8 (Nat.zero_lt_succ _) rfl
theorem dX11_mark_99 : decode cX11_mark 99 = .ok (.iload_n 3, 1) := dz1 (k := 3) (m := 1) dzc0_cX11_mark_96 di_3 (Nat.zero_lt_succ _) rfl
theorem dX11_mark_100 : decode cX11_mark 100 = .ok (.iconst 3, 1) := dz1 (k := 4) (m := 1) dzc0_cX11_mark_96 di_4 (Nat.zero_lt_succ _) rfl
theorem dX11_mark_101 : decode cX11_mark 101 = .ok (.ishr, 1) := dz1 (k := 5) (m := 1) dzc0_cX11_mark_96 di_47 (Nat.zero_lt_succ _) rfl
theorem dX11_mark_102 : decode cX11_mark 102 = .ok (.invokestatic 133, 3) := dz1 (k := 6) (m := 3) dzc0_cX11_mark_96 di_582 (Nat.zero_lt_succ _) rfl
theorem dX11_mark_105 : decode cX11_mark 105 = .ok (.iconst 1, 1) := dz1 (k := 9) (m := 1) dzc0_cX11_mark_96 di_10 (Nat.zero_lt_succ _) rfl
theorem dX11_mark_106 : decode cX11_mark 106 = .ok (.if_icmp .le 7, 3) := dz1 (k := 10) (m := 3) dzc0_cX11_mark_96 di_606 (Nat.zero_lt_succ _) rfl
theorem dX11_mark_109 : decode cX11_mark 109 = .ok (.iconst 1, 1) := dz1 (k := 13) (m := 1) dzc0_cX11_mark_96 di_10 (Nat.zero_lt_succ _) rfl
theorem dX11_mark_110 : decode cX11_mark 110 = .ok (.goto 4, 3) := dz1 (k := 14) (m := 3) dzc0_cX11_mark_96 di_49 (Nat.zero_lt_succ _) rfl
theorem dX11_mark_113 : decode cX11_mark 113 = .ok (.iconst 0, 1) := dz1 (k := 17) (m := 1) dzc0_cX11_mark_96 di_8 (Nat.zero_lt_succ _) rfl
theorem dX11_mark_114 : decode cX11_mark 114 = .ok (.iadd, 1) := dz1 (k := 18) (m := 1) dzc0_cX11_mark_96 di_24 (Nat.zero_lt_succ _) rfl
theorem dX11_mark_115 : decode cX11_mark 115 = .ok (.ireturn, 1) := dz1 (k := 19) (m := 1) dzc0_cX11_mark_96 di_13 (Nat.zero_lt_succ _) rfl
theorem dX11_mark_116 : decode cX11_mark 116 = .ok (.iload_n 2, 1) := dz1 (k := 20) (m := 1) dzc0_cX11_mark_96 di_28 (Nat.zero_lt_succ _) rfl
theorem dX11_mark_117 : decode cX11_mark 117 = .ok (.iconst 4, 1) := dz1 (k := 21) (m := 1) dzc0_cX11_mark_96 di_33 (Nat.zero_lt_succ _) rfl
theorem dX11_mark_118 : decode cX11_mark 118 = .ok (.if_icmp .ne 11, 3) := dz1 (k := 22) (m := 3) dzc0_cX11_mark_96 di_604 (Nat.zero_lt_succ _) rfl
theorem dX11_mark_121 : decode cX11_mark 121 = .ok (.aload_n 0, 1) := dz1 (k := 25) (m := 1) dzc0_cX11_mark_96 di_0 (Nat.zero_lt_succ _) rfl
theorem dX11_mark_122 : decode cX11_mark 122 = .ok (.getfield 38, 3) := dz1 (k := 26) (m := 3) dzc0_cX11_mark_96 di_574 (Nat.zero_lt_succ _) rfl
theorem dX11_mark_125 : decode cX11_mark 125 = .ok (.bipush 7, 2) := dz1 (k := 29) (m := 2) dzc0_cX11_mark_96 di_83 (Nat.zero_lt_succ _) rfl
