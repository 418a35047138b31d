set_option maxRecDepth 100000 in
theorem dzc2_cX11_lot_0 : DzLies cX11_lot (.mk ⟨[0x1c, 0x2a, 0xb4, 0x00, 0x26, 0x08, 0x2e, 0xb8, 0x00, 0x85, 0xb8, 0x00, 0x65, 0x36, 0x04, 0x15, 0x04, 0x9e, 0x00, 0x07, 0x09, 0xa7, 0x00, 0x1f, 0x1d, 0x99, 0x00, 0x10, 0x2a, 0xb4, 0x00, 0x26]⟩) 0 := dz_lies (m := 32) (Nat.zero_lt_succ _) rfl
theorem dX11_lot_20 : decode cX11_lot 20 = .ok (.lconst 0, 1) := dz1 (k := 20) (m := 1) dzc2_cX11_lot_0 di_246 (Nat.zero_lt_succ _) rfl
theorem dX11_lot_21 : decode cX11_lot 21 = .ok (.goto 31, 3) := dz1 (k := 21) (m := 3) dzc2_cX11_lot_0 di_681 (Nat.zero_lt_succ _) rfl
theorem dX11_lot_24 : decode cX11_lot 24 = .ok (.iload_n 3, 1) := dz1 (k := 24) (m := 1) dzc2_cX11_lot_0 di_3 (Nat.zero_lt_succ _) rfl
theorem dX11_lot_25 : decode cX11_lot 25 = .ok (.ifCond .eq 16, 3) := dz1 (k := 25) (m := 3) dzc2_cX11_lot_0 di_476 (Nat.zero_lt_succ _) rfl
theorem dX11_lot_28 : decode cX11_lot 28 = .ok (.aload_n 0, 1) := dz1 (k := 28) (m := 1) dzc2_cX11_lot_0 di_0 (Nat.zero_lt_succ _) rfl
theorem dX11_lot_29 : decode cX11_lot 29 = .ok (.getfield 38, 3) := dz1 (k := 29) (m := 3) dzc2_cX11_lot_0 di_574 (Nat.zero_lt_succ _) rfl
set_option maxRecDepth 100000 in
theorem dzc2_cX11_lot_32 : DzLies cX11_lot (.mk ⟨[0x1b, 0x2e, 0xb8, 0x00, 0x85, 0x85, 0xa7, 0x00, 0x0e, 0x2a, 0xb4, 0x00, 0x26, 0x07, 0x2e, 0x1b, 0x7a, 0x04, 0x7e, 0x85, 0x37, 0x05, 0x15, 0x04, 0x9e, 0x00, 0x07, 0x09, 0xa7, 0x00, 0x04, 0x0a]⟩) 32 := dz_lies (m := 32) (Nat.zero_lt_succ _) rfl
theorem dX11_lot_32 : decode cX11_lot 32 = .ok (.iload_n 1, 1) := dz1 (k := 0) (m := 1) dzc2_cX11_lot_32 di_11 (Nat.zero_lt_succ _) rfl
theorem dX11_lot_33 : decode cX11_lot 33 = .ok (.iaload, 1) := dz1 (k := 1) (m := 1) dzc2_cX11_lot_32 di_30 (Nat.zero_lt_succ _) rfl
theorem dX11_lot_34 : decode cX11_lot 34 = .ok (.invokestatic 133, 3) := dz1 (k := 2) (m := 3) dzc2_cX11_lot_32 di_582 (Nat.zero_lt_succ _) rfl
theorem dX11_lot_37 : decode cX11_lot 37 = .ok (.i2l, 1) := dz1 (k := 5) (m := 1) dzc2_cX11_lot_32 di_250 (Nat.zero_lt_succ _) rfl
theorem dX11_lot_38 : decode cX11_lot 38 = .ok (.goto 14, 3) := dz1 (k := 6) (m := 3) dzc2_cX11_lot_32 di_477 (Nat.zero_lt_succ _) rfl
theorem dX11_lot_41 : decode cX11_lot 41 = .ok (.aload_n 0, 1) := dz1 (k := 9) (m := 1) dzc2_cX11_lot_32 di_0 (Nat.zero_lt_succ _) rfl
theorem dX11_lot_42 : decode cX11_lot 42 = .ok (.getfield 38, 3) := dz1 (k := 10) (m := 3) dzc2_cX11_lot_32 di_574 (Nat.zero_lt_succ _) rfl
theorem dX11_lot_45 : decode cX11_lot 45 = .ok (.iconst 4, 1) := dz1 (k := 13) (m := 1) dzc2_cX11_lot_32 di_33 (Nat.zero_lt_succ _) rfl
theorem dX11_lot_46 : decode cX11_lot 46 = .ok (.iaload, 1) := dz1 (k := 14) (m := 1) dzc2_cX11_lot_32 di_30 (Nat.zero_lt_succ _) rfl
theorem dX11_lot_47 : decode cX11_lot 47 = .ok (.iload_n 1, 1) := dz1 (k := 15) (m := 1) dzc2_cX11_lot_32 di_11 (Nat.zero_lt_succ _) rfl
theorem dX11_lot_48 : decode cX11_lot 48 = .ok (.ishr, 1) := dz1 (k := 16) (m := 1) dzc2_cX11_lot_32 di_47 (Nat.zero_lt_succ _) rfl
theorem dX11_lot_49 : decode cX11_lot 49 = .ok (.iconst 1, 1) := dz1 (k := 17) (m := 1) dzc2_cX11_lot_32 di_10 (Nat.zero_lt_succ _) rfl
theorem dX11_lot_50 : decode cX11_lot 50 = .ok (.iand, 1) := dz1 (k := 18) (m := 1) dzc2_cX11_lot_32 di_48 (Nat.zero_lt_succ _) rfl
theorem dX11_lot_51 : decode cX11_lot 51 = .ok (.i2l, 1) := dz1 (k := 19) (m := 1) dzc2_cX11_lot_32 di_250 (Nat.zero_lt_succ _) rfl
theorem dX11_lot_52 : decode cX11_lot 52 = .ok (.lstore 5, 2) := dz1 (k := 20) (m := 2) dzc2_cX11_lot_32 di_484 (Nat.zero_lt_succ _) rfl
theorem dX11_lot_54 : decode cX11_lot 54 = .ok (.iload 4, 2) := dz1 (k := 22) (m := 2) dzc2_cX11_lot_32 di_52 (Nat.zero_lt_succ _) rfl
theorem dX11_lot_56 : decode cX11_lot 56 = .ok (.ifCond .le 7, 3) := dz1 (k := 24) (m := 3) dzc2_cX11_lot_32 di_680 (Nat.zero_lt_succ _) rfl
theorem dX11_lot_59 : decode cX11_lot 59 = .ok (.lconst 0, 1) := dz1 (k := 27) (m := 1) dzc2_cX11_lot_32 di_246 (Nat.zero_lt_succ _) rfl
theorem dX11_lot_60 : decode cX11_lot 60 = .ok (.goto 4, 3) := dz1 (k := 28) (m := 3) dzc2_cX11_lot_32 di_49 (Nat.zero_lt_succ _) rfl
theorem dX11_lot_63 : decode cX11_lot 63 = .ok (.lconst 1, 1) := dz1 (k := 31) (m := 1) dzc2_cX11_lot_32 di_217 (Nat.zero_lt_succ _) rfl
set_option maxRecDepth 100000 in
theorem dzc2_cX11_lot_64 : DzLies cX11_lot (.mk ⟨[0x37, 0x07, 0x15, 0x04, 0x9e, 0x00, 0x11, 0x2a, 0x15, 0x04, 0x04, 0xb6, 0x00, 0xae, 0x99, 0x00, 0x07, 0x04, 0xa7, 0x00, 0x04, 0x03, 0x36, 0x09, 0x15, 0x09, 0x99, 0x00, 0x47, 0x11, 0x05, 0x20]⟩) 64 := dz_lies (m := 32) (Nat.zero_lt_succ _) rfl
theorem dX11_lot_64 : decode cX11_lot 64 = .ok (.lstore 7, 2) := dz1 (k := 0) (m := 2) dzc2_cX11_lot_64 di_677 (Nat.zero_lt_succ _) rfl
theorem dX11_lot_66 : decode cX11_lot 66 = .ok (.iload 4, 2) := dz1 (k := 2) (m := 2) dzc2_cX11_lot_64 di_52 (Nat.zero_lt_succ _) rfl
theorem dX11_lot_68 : decode cX11_lot 68 = .ok (.ifCond .le 17, 3) := dz1 (k := 4) (m := 3) dzc2_cX11_lot_64 di_682 (Nat.zero_lt_succ _) rfl
theorem dX11_lot_71 : decode cX11_lot 71 = .ok (.aload_n 0, 1) := dz1 (k := 7) (m := 1) dzc2_cX11_lot_64 di_0 (Nat.zero_lt_succ _) rfl
theorem dX11_lot_72 : decode cX11_lot 72 = .ok (.iload 4, 2) := dz1 (k := 8) (m := 2) dzc2_cX11_lot_64 di_52 (Nat.zero_lt_succ _) rfl
theorem dX11_lot_74 : decode cX11_lot 74 = .ok (.iconst 1, 1) := dz1 (k := 10) (m := 1) dzc2_cX11_lot_64 di_10 (Nat.zero_lt_succ _) rfl
theorem dX11_lot_75 : decode cX11_lot 75 = .ok (.invokevirtual 174, 3) := dz1 (k := 11) (m := 3) dzc2_cX11_lot_64 di_632 (Nat.zero_lt_succ _) rfl
theorem dX11_lot_78 : decode cX11_lot 78 = .ok (.ifCond .eq 7, 3) := dz1 (k := 14) (m := 3) dzc2_cX11_lot_64 di_608 (Nat.zero_lt_succ _) rfl
theorem dX11_lot_81 : decode cX11_lot 81 = .ok (.iconst 1, 1) := dz1 (k := 17) (m := 1) dzc2_cX11_lot_64 di_10 (Nat.zero_lt_succ _) rfl
theorem dX11_lot_82 : decode cX11_lot 82 = .ok (.goto 4, 3) := dz1 (k := 18) (m := 3) dzc2_cX11_lot_64 di_49 (Nat.zero_lt_succ _) rfl
theorem dX11_lot_85 : decode cX11_lot 85 = .ok (.iconst 0, 1) := dz1 (k := 21) (m := 1) dzc2_cX11_lot_64 di_8 (Nat.zero_lt_succ _) rfl
theorem dX11_lot_86 : decode cX11_lot 86 = .ok (.istore 9, 2) := dz1 (k := 22) (m := 2) dzc2_cX11_lot_64 di_452 (Nat.zero_lt_succ _) rfl
theorem dX11_lot_88 : decode cX11_lot 88 = .ok (.iload 9, 2) := dz1 (k := 24) (m := 2) dzc2_cX11_lot_64 di_453 (Nat.zero_lt_succ _) rfl
theorem dX11_lot_90 : decode cX11_lot 90 = .ok (.ifCond .eq 71, 3) := dz1 (k := 26) (m := 3) dzc2_cX11_lot_64 di_683 (Nat.zero_lt_succ _) rfl
theorem dX11_lot_93 : decode cX11_lot 93 = .ok (.sipush 1312, 3) := dz1 (k := 29) (m := 3) dzc2_cX11_lot_64 di_616 (Nat.zero_lt_succ _) rfl
set_option maxRecDepth 100000 in
theorem dzc2_cX11_lot_96 : DzLies cX11_lot (.mk ⟨[0x15, 0x04, 0x10, 0x08, 0x68, 0x60, 0x36, 0x0a, 0x16, 0x05, 0x1d, 0x99, 0x00, 0x13, 0x2a, 0xb4, 0x00, 0x26, 0x15, 0x0a, 0x1b, 0x60, 0x2e, 0xb8, 0x00, 0x85, 0x85, 0xa7, 0x00, 0x11, 0x2a, 0xb4, 0x00, 0x26]⟩) 96 := dz_lies (m := 34) (Nat.zero_lt_succ _) rfl
theorem dX11_lot_96 : decode cX11_lot 96 = .ok (.iload 4, 2) := dz1 (k := 0) (m := 2) dzc2_cX11_lot_96 di_52 (Nat.zero_lt_succ _) rfl
theorem dX11_lot_98 : decode cX11_lot 98 = .ok (.bipush 8, 2) := dz1 (k := 2) (m := 2) dzc2_cX11_lot_96 di_184 (Nat.zero_lt_succ _) rfl
theorem dX11_lot_100 : decode cX11_lot 100 = .ok (.imul, 1) := dz1 (k := 4) (m := 1) dzc2_cX11_lot_96 di_113 (Nat.zero_lt_succ _) rfl
theorem dX11_lot_101 : decode cX11_lot 101 = .ok (.iadd, 1) := dz1 (k := 5) (m := 1) dzc2_cX11_lot_96 di_24 (Nat.zero_lt_succ _) rfl
theorem dX11_lot_102 : decode cX11_lot 102 = .ok (.istore 10, 2) := dz1 (k := 6) (m := 2) dzc2_cX11_lot_96 di_684 (Nat.zero_lt_succ _) rfl
theorem dX11_lot_104 : decode cX11_lot 104 = .ok (.lload 5, 2) := dz1 (k := 8) (m := 2) dzc2_cX11_lot_96 di_485 (Nat.zero_lt_succ _) rfl
theorem dX11_lot_106 : decode cX11_lot 106 = .ok (.iload_n 3, 1) := dz1 (k := 10) (m := 1) dzc2_cX11_lot_96 di_3 (Nat.zero_lt_succ _) rfl
theorem dX11_lot_107 : decode cX11_lot 107 = .ok (.ifCond .eq 19, 3) := dz1 (k := 11) (m := 3) dzc2_cX11_lot_96 di_685 (Nat.zero_lt_succ _) rfl
theorem dX11_lot_110 : decode cX11_lot 110 = .ok (.aload_n 0, 1) := dz1 (k := 14) (m := 1) dzc2_cX11_lot_96 di_0 (Nat.zero_lt_succ _) rfl
theorem dX11_lot_111 : decode cX11_lot 111 = .ok (.getfield 38, 3) := dz1 (k := 15) (m := 3) dzc2_cX11_lot_96 di_574 (Nat.zero_lt_succ _) rfl
theorem dX11_lot_114 : decode cX11_lot 114 = .ok (.iload 10, 2) := dz1 (k := 18) (m := 2) dzc2_cX11_lot_96 di_686 (Nat.zero_lt_succ _) rfl
theorem dX11_lot_116 : decode cX11_lot 116 = .ok (.iload_n 1, 1) := dz1 (k := 20) (m := 1) dzc2_cX11_lot_96 di_11 (Nat.zero_lt_succ _) rfl
theorem dX11_lot_117 : decode cX11_lot 117 = .ok (.iadd, 1) := dz1 (k := 21) (m := 1) dzc2_cX11_lot_96 di_24 (Nat.zero_lt_succ _) rfl
theorem dX11_lot_118 : decode cX11_lot 118 = .ok (.iaload, 1) := dz1 (k := 22) (m := 1) dzc2_cX11_lot_96 di_30 (Nat.zero_lt_succ _) rfl
theorem dX11_lot_119 : decode cX11_lot 119 = .ok (.invokestatic 133, 3) := dz1 (k := 23) (m := 3) dzc2_cX11_lot_96 di_582 (Nat.zero_lt_succ _) rfl
theorem dX11_lot_122 : decode cX11_lot 122 = .ok (.i2l, 1) := dz1 (k := 26) (m := 1) dzc2_cX11_lot_96 di_250 (Nat.zero_lt_succ _) rfl
theorem dX11_lot_123 : decode cX11_lot 123 = .ok (.goto 17, 3) := dz1 (k := 27) (m := 3) dzc2_cX11_lot_96 di_687 (Nat.zero_lt_succ _) rfl
theorem dX11_lot_126 : decode cX11_lot 126 = .ok (.aload_n 0, 1) := dz1 (k := 30) (m := 1) dzc2_cX11_lot_96 di_0 (Nat.zero_lt_succ _) rfl
theorem dX11_lot_127 : decode cX11_lot 127 = .ok (.getfield 38, 3) := dz1 (k := 31) (m := 3) dzc2_cX11_lot_96 di_574 (Nat.zero_lt_succ _) rfl
set_option maxRecDepth 100000 in
theorem dzc2_cX11_lot_128 : DzLies cX11_lot (.mk ⟨[0x00, 0x26, 0x15, 0x0a, 0x07, 0x60, 0x2e, 0x1b, 0x7a, 0x04, 0x7e, 0x85, 0x61, 0x37, 0x05, 0x16, 0x07, 0x0a, 0x61, 0x37, 0x07, 0x2a, 0x15, 0x04, 0x03, 0xb6, 0x00, 0xae, 0x36, 0x09, 0xa7, 0xff, 0xba]⟩) 128 := dz_lies (m := 33) (Nat.zero_lt_succ _) rfl
theorem dX11_lot_130 : decode cX11_lot 130 = .ok (.iload 10, 2) := dz1 (k := 2) (m := 2) dzc2_cX11_lot_128 di_686 (Nat.zero_lt_succ _) rfl
theorem dX11_lot_132 : decode cX11_lot 132 = .ok (.iconst 4, 1) := dz1 (k := 4) (m := 1) dzc2_cX11_lot_128 di_33 (Nat.zero_lt_succ _) rfl
theorem dX11_lot_133 : decode cX11_lot 133 = .ok (.iadd, 1) := dz1 (k := 5) (m := 1) dzc2_cX11_lot_128 di_24 (Nat.zero_lt_succ _) rfl
theorem dX11_lot_134 : decode cX11_lot 134 = .ok (.iaload, 1) := dz1 (k := 6) (m := 1) dzc2_cX11_lot_128 di_30 (Nat.zero_lt_succ _) rfl
theorem dX11_lot_135 : decode cX11_lot 135 = .ok (.iload_n 1, 1) := dz1 (k := 7) (m := 1) dzc2_cX11_lot_128 di_11 (Nat.zero_lt_succ _) rfl
theorem dX11_lot_136 : decode cX11_lot 136 = .ok (.ishr, 1) := dz1 (k := 8) (m := 1) dzc2_cX11_lot_128 di_47 (Nat.zero_lt_succ _) rfl
theorem dX11_lot_137 : decode cX11_lot 137 = .ok (.iconst 1, 1) := dz1 (k := 9) (m := 1) dzc2_cX11_lot_128 di_10 (Nat.zero_lt_succ _) rfl
theorem dX11_lot_138 : decode cX11_lot 138 = .ok (.iand, 1) := dz1 (k := 10) (m := 1) dzc2_cX11_lot_128 di_48 (Nat.zero_lt_succ _) rfl
theorem dX11_lot_139 : decode cX11_lot 139 = .ok (.i2l, 1) := dz1 (k := 11) (m := 1) dzc2_cX11_lot_128 di_250 (Nat.zero_lt_succ _) rfl
theorem dX11_lot_140 : decode cX11_lot 140 = .ok (.ladd, 1) := dz1 (k := 12) (m := 1) dzc2_cX11_lot_128 di_251 (Nat.zero_lt_succ _) rfl
theorem dX11_lot_141 : decode cX11_lot 141 = .ok (.lstore 5, 2) := dz1 (k := 13) (m := 2) dzc2_cX11_lot_128 di_484 (Nat.zero_lt_succ _) rfl
theorem dX11_lot_143 : decode cX11_lot 143 = .ok (.lload 7, 2) := dz1 (k := 15) (m := 2) dzc2_cX11_lot_128 di_678 (Nat.zero_lt_succ _) rfl
theorem dX11_lot_145 : decode cX11_lot 145 = .ok (.lconst 1, 1) := dz1 (k := 17) (m := 1) dzc2_cX11_lot_128 di_217 (Nat.zero_lt_succ _) rfl
theorem dX11_lot_146 : decode cX11_lot 146 = .ok (.ladd, 1) := dz1 (k := 18) (m := 1) dzc2_cX11_lot_128 di_251 (Nat.zero_lt_succ _) rfl
theorem dX11_lot_147 : decode cX11_lot 147 = .ok (.lstore 7, 2) := dz1 (k := 19) (m := 2) dzc2_cX11_lot_128 di_677 (Nat.zero_lt_succ _) rfl
theorem dX11_lot_149 : decode cX11_lot 149 = .ok (.aload_n 0, 1) := dz1 (k := 21) (m := 1) dzc2_cX11_lot_128 di_0 (Nat.zero_lt_succ _) rfl
theorem dX11_lot_150 : decode cX11_lot 150 = .ok (.iload 4, 2) := dz1 (k := 22) (m := 2) dzc2_cX11_lot_128 di_52 (Nat.zero_lt_succ _) rfl
theorem dX11_lot_152 : decode cX11_lot 152 = .ok (.iconst 0, 1) := dz1 (k := 24) (m := 1) dzc2_cX11_lot_128 di_8 (Nat.zero_lt_succ _) rfl
theorem dX11_lot_153 : decode cX11_lot 153 = .ok (.invokevirtual 174, 3) := dz1 (k := 25) (m := 3) dzc2_cX11_lot_128 di_632 (Nat.zero_lt_succ _) rfl
theorem dX11_lot_156 : decode cX11_lot 156 = .ok (.istore 9, 2) := dz1 (k := 28) (m := 2) dzc2_cX11_lot_128 di_452 (Nat.zero_lt_succ _) rfl
theorem dX11_lot_158 : decode cX11_lot 158 = .ok (.goto (-70), 3) := dz1 (k := 30) (m := 3) dzc2_cX11_lot_128 di_660 (Nat.zero_lt_succ _) rfl
set_option maxRecDepth 100000 in
theorem dzc2_cX11_lot_160 : DzLies cX11_lot (.mk ⟨[0xba, 0x2a, 0x16, 0x05, 0x16, 0x07, 0xb6, 0x00, 0xcf, 0xac]⟩) 160 := dz_lies (m := 10) (Nat.zero_lt_succ _) rfl
theorem dX11_lot_161 : decode cX11_lot 161 = .ok (.aload_n 0, 1) := dz1 (k := 1) (m := 1) dzc2_cX11_lot_160 di_0 (Nat.zero_lt_succ _) rfl
theorem dX11_lot_162 : decode cX11_lot 162 = .ok (.lload 5, 2) := dz1 (k := 2) (m := 2) dzc2_cX11_lot_160 di_485 (Nat.zero_lt_succ _) rfl
theorem dX11_lot_164 : decode cX11_lot 164 = .ok (.lload 7, 2) := dz1 (k := 4) (m := 2) dzc2_cX11_lot_160 di_678 (Nat.zero_lt_succ _) rfl
theorem dX11_lot_166 : decode cX11_lot 166 = .ok (.invokevirtual 207, 3) := dz1 (k := 6) (m := 3) dzc2_cX11_lot_160 di_317 (Nat.zero_lt_succ _) rfl
theorem dX11_lot_169 : decode cX11_lot 169 = .ok (.ireturn, 1) := dz1 (k := 9) (m := 1) dzc2_cX11_lot_160 di_13 (Nat.zero_lt_succ _) rfl
set_option maxRecDepth 100000 in
theorem dzc2_cX11_odds_0 : DzLies cX11_odds (.mk ⟨[0x2a, 0x1b, 0xb6, 0x00, 0x98, 0x99, 0x00, 0x19, 0x1c, 0x85, 0x09, 0x14, 0x00, 0x49, 0xb8, 0x00, 0x45, 0x99, 0x00, 0x0d, 0x2a, 0x1b, 0x1c, 0x03, 0xb6, 0x00, 0xd3, 0xa7, 0x00, 0x04, 0x02, 0xac]⟩) 0 := dz_lies (m := 32) (Nat.zero_lt_succ _) rfl
theorem dX11_odds_0 : decode cX11_odds 0 = .ok (.aload_n 0, 1) := dz1 (k := 0) (m := 1) dzc2_cX11_odds_0 di_0 (Nat.zero_lt_succ _) rfl
theorem dX11_odds_1 : decode cX11_odds 1 = .ok (.iload_n 1, 1) := dz1 (k := 1) (m := 1) dzc2_cX11_odds_0 di_11 (Nat.zero_lt_succ _) rfl
theorem dX11_odds_2 : decode cX11_odds 2 = .ok (.invokevirtual 152, 3) := dz1 (k := 2) (m := 3) dzc2_cX11_odds_0 di_600 (Nat.zero_lt_succ _) rfl
theorem dX11_odds_5 : decode cX11_odds 5 = .ok (.ifCond .eq 25, 3) := dz1 (k := 5) (m := 3) dzc2_cX11_odds_0 di_367 (Nat.zero_lt_succ _) rfl
theorem dX11_odds_8 : decode cX11_odds 8 = .ok (.iload_n 2, 1) := dz1 (k := 8) (m := 1) dzc2_cX11_odds_0 di_28 (Nat.zero_lt_succ _) rfl
theorem dX11_odds_9 : decode cX11_odds 9 = .ok (.i2l, 1) := dz1 (k := 9) (m := 1) dzc2_cX11_odds_0 di_250 (Nat.zero_lt_succ _) rfl
theorem dX11_odds_10 : decode cX11_odds 10 = .ok (.lconst 0, 1) := dz1 (k := 10) (m := 1) dzc2_cX11_odds_0 di_246 (Nat.zero_lt_succ _) rfl
theorem dX11_odds_11 : decode cX11_odds 11 = .ok (.ldc2_w 73, 3) := dz1 (k := 11) (m := 3) dzc2_cX11_odds_0 di_523 (Nat.zero_lt_succ _) rfl
theorem dX11_odds_14 : decode cX11_odds 14 = .ok (.invokestatic 69, 3) := dz1 (k := 14) (m := 3) dzc2_cX11_odds_0 di_522 (Nat.zero_lt_succ _) rfl
theorem dX11_odds_17 : decode cX11_odds 17 = .ok (.ifCond .eq 13, 3) := dz1 (k := 17) (m := 3) dzc2_cX11_odds_0 di_277 (Nat.zero_lt_succ _) rfl
theorem dX11_odds_20 : decode cX11_odds 20 = .ok (.aload_n 0, 1) := dz1 (k := 20) (m := 1) dzc2_cX11_odds_0 di_0 (Nat.zero_lt_succ _) rfl
theorem dX11_odds_21 : decode cX11_odds 21 = .ok (.iload_n 1, 1) := dz1 (k := 21) (m := 1) dzc2_cX11_odds_0 di_11 (Nat.zero_lt_succ _) rfl
theorem dX11_odds_22 : decode cX11_odds 22 = .ok (.iload_n 2, 1) := dz1 (k := 22) (m := 1) dzc2_cX11_odds_0 di_28 (Nat.zero_lt_succ _) rfl
theorem dX11_odds_23 : decode cX11_odds 23 = .ok (.iconst 0, 1) := dz1 (k := 23) (m := 1) dzc2_cX11_odds_0 di_8 (Nat.zero_lt_succ _) rfl
theorem dX11_odds_24 : decode cX11_odds 24 = .ok (.invokevirtual 211, 3) := dz1 (k := 24) (m := 3) dzc2_cX11_odds_0 di_323 (Nat.zero_lt_succ _) rfl
theorem dX11_odds_27 : decode cX11_odds 27 = .ok (.goto 4, 3) := dz1 (k := 27) (m := 3) dzc2_cX11_odds_0 di_49 (Nat.zero_lt_succ _) rfl
theorem dX11_odds_30 : decode cX11_odds 30 = .ok (.iconst (-1), 1) := dz1 (k := 30) (m := 1) dzc2_cX11_odds_0 di_65 (Nat.zero_lt_succ _) rfl
theorem dX11_odds_31 : decode cX11_odds 31 = .ok (.ireturn, 1) := dz1 (k := 31) (m := 1) dzc2_cX11_odds_0 di_13 (Nat.zero_lt_succ _) rfl
set_option maxRecDepth 100000 in
theorem dzc2_cX11_mid_0 : DzLies cX11_mid (.mk ⟨[0x2a, 0x1b, 0xb6, 0x00, 0x98, 0x99, 0x00, 0x19, 0x1c, 0x85, 0x09, 0x14, 0x00, 0x49, 0xb8, 0x00, 0x45, 0x99, 0x00, 0x0d, 0x2a, 0x1b, 0x1c, 0x04, 0xb6, 0x00, 0xd3, 0xa7, 0x00, 0x04, 0x02, 0xac]⟩) 0 := dz_lies (m := 32) (Nat.zero_lt_succ _) rfl
theorem dX11_mid_0 : decode cX11_mid 0 = .ok (.aload_n 0, 1) := dz1 (k := 0) (m := 1) dzc2_cX11_mid_0 di_0 (Nat.zero_lt_succ _) rfl
theorem dX11_mid_1 : decode cX11_mid 1 = .ok (.iload_n 1, 1) := dz1 (k := 1) (m := 1) dzc2_cX11_mid_0 di_11 (Nat.zero_lt_succ _) rfl
theorem dX11_mid_2 : decode cX11_mid 2 = .ok (.invokevirtual 152, 3) := dz1 (k := 2) (m := 3) dzc2_cX11_mid_0 di_600 (Nat.zero_lt_succ _) rfl
theorem dX11_mid_5 : decode cX11_mid 5 = .ok (.ifCond .eq 25, 3) := dz1 (k := 5) (m := 3) dzc2_cX11_mid_0 di_367 (Nat.zero_lt_succ _) rfl
theorem dX11_mid_8 : decode cX11_mid 8 = .ok (.iload_n 2, 1) := dz1 (k := 8) (m := 1) dzc2_cX11_mid_0 di_28 (Nat.zero_lt_succ _) rfl
theorem dX11_mid_9 : decode cX11_mid 9 = .ok (.i2l, 1) := dz1 (k := 9) (m := 1) dzc2_cX11_mid_0 di_250 (Nat.zero_lt_succ _) rfl
theorem dX11_mid_10 : decode cX11_mid 10 = .ok (.lconst 0, 1) := dz1 (k := 10) (m := 1) dzc2_cX11_mid_0 di_246 (Nat.zero_lt_succ _) rfl
theorem dX11_mid_11 : decode cX11_mid 11 = .ok (.ldc2_w 73, 3) := dz1 (k := 11) (m := 3) dzc2_cX11_mid_0 di_523 (Nat.zero_lt_succ _) rfl
theorem dX11_mid_14 : decode cX11_mid 14 = .ok (.invokestatic 69, 3) := dz1 (k := 14) (m := 3) dzc2_cX11_mid_0 di_522 (Nat.zero_lt_succ _) rfl
theorem dX11_mid_17 : decode cX11_mid 17 = .ok (.ifCond .eq 13, 3) := dz1 (k := 17) (m := 3) dzc2_cX11_mid_0 di_277 (Nat.zero_lt_succ _) rfl
theorem dX11_mid_20 : decode cX11_mid 20 = .ok (.aload_n 0, 1) := dz1 (k := 20) (m := 1) dzc2_cX11_mid_0 di_0 (Nat.zero_lt_succ _) rfl
theorem dX11_mid_21 : decode cX11_mid 21 = .ok (.iload_n 1, 1) := dz1 (k := 21) (m := 1) dzc2_cX11_mid_0 di_11 (Nat.zero_lt_succ _) rfl
theorem dX11_mid_22 : decode cX11_mid 22 = .ok (.iload_n 2, 1) := dz1 (k := 22) (m := 1) dzc2_cX11_mid_0 di_28 (Nat.zero_lt_succ _) rfl
theorem dX11_mid_23 : decode cX11_mid 23 = .ok (.iconst 1, 1) := dz1 (k := 23) (m := 1) dzc2_cX11_mid_0 di_10 (Nat.zero_lt_succ _) rfl
theorem dX11_mid_24 : decode cX11_mid 24 = .ok (.invokevirtual 211, 3) := dz1 (k := 24) (m := 3) dzc2_cX11_mid_0 di_323 (Nat.zero_lt_succ _) rfl
theorem dX11_mid_27 : decode cX11_mid 27 = .ok (.goto 4, 3) := dz1 (k := 27) (m := 3) dzc2_cX11_mid_0 di_49 (Nat.zero_lt_succ _) rfl
theorem dX11_mid_30 : decode cX11_mid 30 = .ok (.iconst (-1), 1) := dz1 (k := 30) (m := 1) dzc2_cX11_mid_0 di_65 (Nat.zero_lt_succ _) rfl
theorem dX11_mid_31 : decode cX11_mid 31 = .ok (.ireturn, 1) := dz1 (k := 31) (m := 1) dzc2_cX11_mid_0 di_13 (Nat.zero_lt_succ _) rfl
set_option maxRecDepth 100000 in
theorem dzc2_cX11_lots_0 : DzLies cX11_lots (.mk ⟨[0x1b, 0x85, 0x0a, 0x14, 0x00, 0xd7, 0xb8, 0x00, 0x45, 0x99, 0x00, 0x0f, 0x1c, 0x85, 0x0a, 0x14, 0x00, 0xd9, 0xb8, 0x00, 0x45, 0x9a, 0x00, 0x05, 0x02, 0xac, 0x2a, 0xb4, 0x00, 0x7c, 0x9a, 0x00, 0x06]⟩) 0 := dz_lies (m := 33) (Nat.zero_lt_succ _) rfl
theorem dX11_lots_0 : decode cX11_lots 0 = .ok (.iload_n 1, 1) := dz1 (k := 0) (m := 1) dzc2_cX11_lots_0 di_11 (Nat.zero_lt_succ _) rfl
theorem dX11_lots_1 : decode cX11_lots 1 = .ok (.i2l, 1) := dz1 (k := 1) (m := 1) dzc2_cX11_lots_0 di_250 (Nat.zero_lt_succ _) rfl
theorem dX11_lots_2 : decode cX11_lots 2 = .ok (.lconst 1, 1) := dz1 (k := 2) (m := 1) dzc2_cX11_lots_0 di_217 (Nat.zero_lt_succ _) rfl
theorem dX11_lots_3 : decode cX11_lots 3 = .ok (.ldc2_w 215, 3) := dz1 (k := 3) (m := 3) dzc2_cX11_lots_0 di_688 (Nat.zero_lt_succ _) rfl
theorem dX11_lots_6 : decode cX11_lots 6 = .ok (.invokestatic 69, 3) := dz1 (k := 6) (m := 3) dzc2_cX11_lots_0 di_522 (Nat.zero_lt_succ _) rfl
theorem dX11_lots_9 : decode cX11_lots 9 = .ok (.ifCond .eq 15, 3) := dz1 (k := 9) (m := 3) dzc2_cX11_lots_0 di_242 (Nat.zero_lt_succ _) rfl
theorem dX11_lots_12 : decode cX11_lots 12 = .ok (.iload_n 2, 1) := dz1 (k := 12) (m := 1) dzc2_cX11_lots_0 di_28 (Nat.zero_lt_succ _) rfl
theorem dX11_lots_13 : decode cX11_lots 13 = .ok (.i2l, 1) := dz1 (k := 13) (m := 1) dzc2_cX11_lots_0 di_250 (Nat.zero_lt_succ _) rfl
theorem dX11_lots_14 : decode cX11_lots 14 = .ok (.lconst 1, 1) := dz1 (k := 14) (m := 1) dzc2_cX11_lots_0 di_217 (Nat.zero_lt_succ _) rfl
theorem dX11_lots_15 : decode cX11_lots 15 = .ok (.ldc2_w 217, 3) := dz1 (k := 15) (m := 3) dzc2_cX11_lots_0 di_689 (Nat.zero_lt_succ _) rfl
theorem dX11_lots_18 : decode cX11_lots 18 = .ok (.invokestatic 69, 3) := dz1 (k := 18) (m := 3) dzc2_cX11_lots_0 di_522 (Nat.zero_lt_succ _) rfl
theorem dX11_lots_21 : decode cX11_lots 21 = .ok (.ifCond .ne 5, 3) := dz1 (k := 21) (m := 3) dzc2_cX11_lots_0 di_239 (Nat.zero_lt_succ _) rfl
theorem dX11_lots_24 : decode cX11_lots 24 = .ok (.iconst (-1), 1) := dz1 (k := 24) (m := 1) dzc2_cX11_lots_0 di_65 (Nat.zero_lt_succ _) rfl
theorem dX11_lots_25 : decode cX11_lots 25 = .ok (.ireturn, 1) := dz1 (k := 25) (m := 1) dzc2_cX11_lots_0 di_13 (Nat.zero_lt_succ _) rfl
theorem dX11_lots_26 : decode cX11_lots 26 = .ok (.aload_n 0, 1) := dz1 (k := 26) (m := 1) dzc2_cX11_lots_0 di_0 (Nat.zero_lt_succ _) rfl
theorem dX11_lots_27 : decode cX11_lots 27 = .ok (.getfield 124, 3) := dz1 (k := 27) (m := 3) dzc2_cX11_lots_0 di_572 (Nat.zero_lt_succ _) rfl
theorem dX11_lots_30 : decode cX11_lots 30 = .ok (.ifCond .ne 6, 3) := dz1 (k := 30) (m := 3) dzc2_cX11_lots_0 di_308 (Nat.zero_lt_succ _) rfl
set_option maxRecDepth 100000 in
theorem dzc2_cX11_lots_32 : DzLies cX11_lots (.mk ⟨[0x06, 0x10, 0xfc, 0xac, 0x2a, 0xb4, 0x00, 0x7f, 0x1b, 0x60, 0x10, 0x28, 0xa4, 0x00, 0x06, 0x10, 0xfe, 0xac, 0x1c, 0x85, 0x42, 0x03, 0x36, 0x05, 0x15, 0x05, 0x1b, 0xa2, 0x00, 0x78, 0x21, 0x14, 0x00, 0xdb]⟩) 32 := dz_lies (m := 34) (Nat.zero_lt_succ _) rfl
theorem dX11_lots_33 : decode cX11_lots 33 = .ok (.bipush (-4), 2) := dz1 (k := 1) (m := 2) dzc2_cX11_lots_32 di_264 (Nat.zero_lt_succ _) rfl
theorem dX11_lots_35 : decode cX11_lots 35 = .ok (.ireturn, 1) := dz1 (k := 3) (m := 1) dzc2_cX11_lots_32 di_13 (Nat.zero_lt_succ _) rfl
theorem dX11_lots_36 : decode cX11_lots 36 = .ok (.aload_n 0, 1) := dz1 (k := 4) (m := 1) dzc2_cX11_lots_32 di_0 (Nat.zero_lt_succ _) rfl
theorem dX11_lots_37 : decode cX11_lots 37 = .ok (.getfield 127, 3) := dz1 (k := 5) (m := 3) dzc2_cX11_lots_32 di_609 (Nat.zero_lt_succ _) rfl
theorem dX11_lots_40 : decode cX11_lots 40 = .ok (.iload_n 1, 1) := dz1 (k := 8) (m := 1) dzc2_cX11_lots_32 di_11 (Nat.zero_lt_succ _) rfl
theorem dX11_lots_41 : decode cX11_lots 41 = .ok (.iadd, 1) := dz1 (k := 9) (m := 1) dzc2_cX11_lots_32 di_24 (Nat.zero_lt_succ _) rfl
theorem dX11_lots_42 : decode cX11_lots 42 = .ok (.bipush 40, 2) := dz1 (k := 10) (m := 2) dzc2_cX11_lots_32 di_16 (Nat.zero_lt_succ _) rfl
theorem dX11_lots_44 : decode cX11_lots 44 = .ok (.if_icmp .le 6, 3) := dz1 (k := 12) (m := 3) dzc2_cX11_lots_32 di_122 (Nat.zero_lt_succ _) rfl
theorem dX11_lots_47 : decode cX11_lots 47 = .ok (.bipush (-2), 2) := dz1 (k := 15) (m := 2) dzc2_cX11_lots_32 di_311 (Nat.zero_lt_succ _) rfl
theorem dX11_lots_49 : decode cX11_lots 49 = .ok (.ireturn, 1) := dz1 (k := 17) (m := 1) dzc2_cX11_lots_32 di_13 (Nat.zero_lt_succ _) rfl
theorem dX11_lots_50 : decode cX11_lots 50 = .ok (.iload_n 2, 1) := dz1 (k := 18) (m := 1) dzc2_cX11_lots_32 di_28 (Nat.zero_lt_succ _) rfl
theorem dX11_lots_51 : decode cX11_lots 51 = .ok (.i2l, 1) := dz1 (k := 19) (m := 1) dzc2_cX11_lots_32 di_250 (Nat.zero_lt_succ _) rfl
theorem dX11_lots_52 : decode cX11_lots 52 = .ok (.lstore_n 3, 1) := dz1 (k := 20) (m := 1) dzc2_cX11_lots_32 di_690 (Nat.zero_lt_succ _) rfl
theorem dX11_lots_53 : decode cX11_lots 53 = .ok (.iconst 0, 1) := dz1 (k := 21) (m := 1) dzc2_cX11_lots_32 di_8 (Nat.zero_lt_succ _) rfl
theorem dX11_lots_54 : decode cX11_lots 54 = .ok (.istore 5, 2) := dz1 (k := 22) (m := 2) dzc2_cX11_lots_32 di_100 (Nat.zero_lt_succ _) rfl
theorem dX11_lots_56 : decode cX11_lots 56 = .ok (.iload 5, 2) := dz1 (k := 24) (m := 2) dzc2_cX11_lots_32 di_101 (Nat.zero_lt_succ _) rfl
theorem dX11_lots_58 : decode cX11_lots 58 = .ok (.iload_n 1, 1) := dz1 (k := 26) (m := 1) dzc2_cX11_lots_32 di_11 (Nat.zero_lt_succ _) rfl
theorem dX11_lots_59 : decode cX11_lots 59 = .ok (.if_icmp .ge 120, 3) := dz1 (k := 27) (m := 3) dzc2_cX11_lots_32 di_691 (Nat.zero_lt_succ _) rfl
theorem dX11_lots_62 : decode cX11_lots 62 = .ok (.lload_n 3, 1) := dz1 (k := 30) (m := 1) dzc2_cX11_lots_32 di_482 (Nat.zero_lt_succ _) rfl
theorem dX11_lots_63 : decode cX11_lots 63 = .ok (.ldc2_w 219, 3) := dz1 (k := 31) (m := 3) dzc2_cX11_lots_32 di_692 (Nat.zero_lt_succ _) rfl
set_option maxRecDepth 100000 in
theorem dzc2_cX11_lots_64 : DzLies cX11_lots (.mk ⟨[0x00, 0xdb, 0x69, 0x14, 0x00, 0xdd, 0x71, 0x42, 0x21, 0x88, 0x36, 0x06, 0x2a, 0xb6, 0x00, 0xa4, 0x15, 0x06, 0x10, 0x08, 0x6c, 0x10, 0x08, 0x70, 0x10, 0x07, 0x9f, 0x00, 0x0c, 0x2a, 0xb4, 0x00, 0x26]⟩) 64 := dz_lies (m := 33) (Nat.zero_lt_succ _) rfl
theorem dX11_lots_66 : decode cX11_lots 66 = .ok (.lmul, 1) := dz1 (k := 2) (m := 1) dzc2_cX11_lots_64 di_380 (Nat.zero_lt_succ _) rfl
theorem dX11_lots_67 : decode cX11_lots 67 = .ok (.ldc2_w 221, 3) := dz1 (k := 3) (m := 3) dzc2_cX11_lots_64 di_693 (Nat.zero_lt_succ _) rfl
theorem dX11_lots_70 : decode cX11_lots 70 = .ok (.lrem, 1) := dz1 (k := 6) (m := 1) dzc2_cX11_lots_64 di_381 (Nat.zero_lt_succ _) rfl
theorem dX11_lots_71 : decode cX11_lots 71 = .ok (.lstore_n 3, 1) := dz1 (k := 7) (m := 1) dzc2_cX11_lots_64 di_690 (Nat.zero_lt_succ _) rfl
theorem dX11_lots_72 : decode cX11_lots 72 = .ok (.lload_n 3, 1) := dz1 (k := 8) (m := 1) dzc2_cX11_lots_64 di_482 (Nat.zero_lt_succ _) rfl
theorem dX11_lots_73 : decode cX11_lots 73 = .ok (.l2i, 1) := dz1 (k := 9) (m := 1) dzc2_cX11_lots_64 di_255 (Nat.zero_lt_succ _) rfl
theorem dX11_lots_74 : decode cX11_lots 74 = .ok (.istore 6, 2) := dz1 (k := 10) (m := 2) dzc2_cX11_lots_64 di_114 (Nat.zero_lt_succ _) rfl
theorem dX11_lots_76 : decode cX11_lots 76 = .ok (.aload_n 0, 1) := dz1 (k := 12) (m := 1) dzc2_cX11_lots_64 di_0 (Nat.zero_lt_succ _) rfl
theorem dX11_lots_77 : decode cX11_lots 77 = .ok (.invokevirtual 164, 3) := dz1 (k := 13) (m := 3) dzc2_cX11_lots_64 di_611 (Nat.zero_lt_succ _) rfl
theorem dX11_lots_80 : decode cX11_lots 80 = .ok (.iload 6, 2) := dz1 (k := 16) (m := 2) dzc2_cX11_lots_64 di_115 (Nat.zero_lt_succ _) rfl
theorem dX11_lots_82 : decode cX11_lots 82 = .ok (.bipush 8, 2) := dz1 (k := 18) (m := 2) dzc2_cX11_lots_64 di_184 (Nat.zero_lt_succ _) rfl
theorem dX11_lots_84 : decode cX11_lots 84 = .ok (.idiv, 1) := dz1 (k := 20) (m := 1) dzc2_cX11_lots_64 di_423 (Nat.zero_lt_succ _) rfl
theorem dX11_lots_85 : decode cX11_lots 85 = .ok (.bipush 8, 2) := dz1 (k := 21) (m := 2) dzc2_cX11_lots_64 di_184 (Nat.zero_lt_succ _) rfl
theorem dX11_lots_87 : decode cX11_lots 87 = .ok (.irem, 1) := dz1 (k := 23) (m := 1) dzc2_cX11_lots_64 di_5 (Nat.zero_lt_succ _) rfl
theorem dX11_lots_88 : decode cX11_lots 88 = .ok (.bipush 7, 2) := dz1 (k := 24) (m := 2) dzc2_cX11_lots_64 di_83 (Nat.zero_lt_succ _) rfl
theorem dX11_lots_90 : decode cX11_lots 90 = .ok (.if_icmp .eq 12, 3) := dz1 (k := 26) (m := 3) dzc2_cX11_lots_64 di_369 (Nat.zero_lt_succ _) rfl
theorem dX11_lots_93 : decode cX11_lots 93 = .ok (.aload_n 0, 1) := dz1 (k := 29) (m := 1) dzc2_cX11_lots_64 di_0 (Nat.zero_lt_succ _) rfl
theorem dX11_lots_94 : decode cX11_lots 94 = .ok (.getfield 38, 3) := dz1 (k := 30) (m := 3) dzc2_cX11_lots_64 di_574 (Nat.zero_lt_succ _) rfl
set_option maxRecDepth 100000 in
theorem dzc2_cX11_lots_96 : DzLies cX11_lots (.mk ⟨[0x26, 0x08, 0x2e, 0x9a, 0x00, 0x1f, 0x2a, 0xb4, 0x00, 0x26, 0x15, 0x06, 0x2a, 0xb4, 0x00, 0x7c, 0x70, 0x5c, 0x2e, 0x04, 0x15, 0x06, 0x10, 0x40, 0x6c, 0x10, 0x06, 0x70, 0x78, 0x82, 0x4f, 0xa7, 0x00, 0x2e]⟩) 96 := dz_lies (m := 34) (Nat.zero_lt_succ _) rfl
theorem dX11_lots_97 : decode cX11_lots 97 = .ok (.iconst 5, 1) := dz1 (k := 1) (m := 1) dzc2_cX11_lots_96 di_145 (Nat.zero_lt_succ _) rfl
theorem dX11_lots_98 : decode cX11_lots 98 = .ok (.iaload, 1) := dz1 (k := 2) (m := 1) dzc2_cX11_lots_96 di_30 (Nat.zero_lt_succ _) rfl
theorem dX11_lots_99 : decode cX11_lots 99 = .ok (.ifCond .ne 31, 3) := dz1 (k := 3) (m := 3) dzc2_cX11_lots_96 di_694 (Nat.zero_lt_succ _) rfl
theorem dX11_lots_102 : decode cX11_lots 102 = .ok (.aload_n 0, 1) := dz1 (k := 6) (m := 1) dzc2_cX11_lots_96 di_0 (Nat.zero_lt_succ _) rfl
theorem dX11_lots_103 : decode cX11_lots 103 = .ok (.getfield 38, 3) := dz1 (k := 7) (m := 3) dzc2_cX11_lots_96 di_574 (Nat.zero_lt_succ _) rfl
theorem dX11_lots_106 : decode cX11_lots 106 = .ok (.iload 6, 2) := dz1 (k := 10) (m := 2) dzc2_cX11_lots_96 di_115 (Nat.zero_lt_succ _) rfl
theorem dX11_lots_108 : decode cX11_lots 108 = .ok (.aload_n 0, 1) := dz1 (k := 12) (m := 1) dzc2_cX11_lots_96 di_0 (Nat.zero_lt_succ _) rfl
theorem dX11_lots_109 : decode cX11_lots 109 = .ok (.getfield 124, 3) := dz1 (k := 13) (m := 3) dzc2_cX11_lots_96 di_572 (Nat.zero_lt_succ _) rfl
theorem dX11_lots_112 : decode cX11_lots 112 = .ok (.irem, 1) := dz1 (k := 16) (m := 1) dzc2_cX11_lots_96 di_5 (Nat.zero_lt_succ _) rfl
theorem dX11_lots_113 : decode cX11_lots 113 = .ok (.dup2, 1) := dz1 (k := 17) (m := 1) dzc2_cX11_lots_96 di_67 (Nat.zero_lt_succ _) rfl
theorem dX11_lots_114 : decode cX11_lots 114 = .ok (.iaload, 1) := dz1 (k := 18) (m := 1) dzc2_cX11_lots_96 di_30 (Nat.zero_lt_succ _) rfl
theorem dX11_lots_115 : decode cX11_lots 115 = .ok (.iconst 1, 1) := dz1 (k := 19) (m := 1) dzc2_cX11_lots_96 di_10 (Nat.zero_lt_succ _) rfl
theorem dX11_lots_116 : decode cX11_lots 116 = .ok (.iload 6, 2) := dz1 (k := 20) (m := 2) dzc2_cX11_lots_96 di_115 (Nat.zero_lt_succ _) rfl
theorem dX11_lots_118 : decode cX11_lots 118 = .ok (.bipush 64, 2) := dz1 (k := 22) (m := 2) dzc2_cX11_lots_96 di_427 (Nat.zero_lt_succ _) rfl
theorem dX11_lots_120 : decode cX11_lots 120 = .ok (.idiv, 1) := dz1 (k := 24) (m := 1) dzc2_cX11_lots_96 di_423 (Nat.zero_lt_succ _) rfl
theorem dX11_lots_121 : decode cX11_lots 121 = .ok (.bipush 6, 2) := dz1 (k := 25) (m := 2) dzc2_cX11_lots_96 di_86 (Nat.zero_lt_succ _) rfl
theorem dX11_lots_123 : decode cX11_lots 123 = .ok (.irem, 1) := dz1 (k := 27) (m := 1) dzc2_cX11_lots_96 di_5 (Nat.zero_lt_succ _) rfl
theorem dX11_lots_124 : decode cX11_lots 124 = .ok (.ishl, 1) := dz1 (k := 28) (m := 1) dzc2_cX11_lots_96 di_12 (Nat.zero_lt_succ _) rfl
theorem dX11_lots_125 : decode cX11_lots 125 = .ok (.ixor, 1) := dz1 (k := 29) (m := 1) dzc2_cX11_lots_96 di_66 (Nat.zero_lt_succ _) rfl
theorem dX11_lots_126 : decode cX11_lots 126 = .ok (.iastore, 1) := dz1 (k := 30) (m := 1) dzc2_cX11_lots_96 di_22 (Nat.zero_lt_succ _) rfl
theorem dX11_lots_127 : decode cX11_lots 127 = .ok (.goto 46, 3) := dz1 (k := 31) (m := 3) dzc2_cX11_lots_96 di_695 (Nat.zero_lt_succ _) rfl
set_option maxRecDepth 100000 in
theorem dzc2_cX11_lots_128 : DzLies cX11_lots (.mk ⟨[0x00, 0x2e, 0x15, 0x06, 0x10, 0x0c, 0x70, 0x04, 0x60, 0x36, 0x07, 0x2a, 0xb4, 0x00, 0x26, 0x08, 0x2e, 0x15, 0x07, 0xb8, 0x00, 0x8b, 0x9a, 0x00, 0x0f, 0x15, 0x07, 0x10, 0x0c, 0x70, 0x04, 0x60]⟩) 128 := dz_lies (m := 32) (Nat.zero_lt_succ _) rfl
theorem dX11_lots_130 : decode cX11_lots 130 = .ok (.iload 6, 2) := dz1 (k := 2) (m := 2) dzc2_cX11_lots_128 di_115 (Nat.zero_lt_succ _) rfl
theorem dX11_lots_132 : decode cX11_lots 132 = .ok (.bipush 12, 2) := dz1 (k := 4) (m := 2) dzc2_cX11_lots_128 di_126 (Nat.zero_lt_succ _) rfl
theorem dX11_lots_134 : decode cX11_lots 134 = .ok (.irem, 1) := dz1 (k := 6) (m := 1) dzc2_cX11_lots_128 di_5 (Nat.zero_lt_succ _) rfl
theorem dX11_lots_135 : decode cX11_lots 135 = .ok (.iconst 1, 1) := dz1 (k := 7) (m := 1) dzc2_cX11_lots_128 di_10 (Nat.zero_lt_succ _) rfl
theorem dX11_lots_136 : decode cX11_lots 136 = .ok (.iadd, 1) := dz1 (k := 8) (m := 1) dzc2_cX11_lots_128 di_24 (Nat.zero_lt_succ _) rfl
theorem dX11_lots_137 : decode cX11_lots 137 = .ok (.istore 7, 2) := dz1 (k := 9) (m := 2) dzc2_cX11_lots_128 di_116 (Nat.zero_lt_succ _) rfl
theorem dX11_lots_139 : decode cX11_lots 139 = .ok (.aload_n 0, 1) := dz1 (k := 11) (m := 1) dzc2_cX11_lots_128 di_0 (Nat.zero_lt_succ _) rfl
theorem dX11_lots_140 : decode cX11_lots 140 = .ok (.getfield 38, 3) := dz1 (k := 12) (m := 3) dzc2_cX11_lots_128 di_574 (Nat.zero_lt_succ _) rfl
theorem dX11_lots_143 : decode cX11_lots 143 = .ok (.iconst 5, 1) := dz1 (k := 15) (m := 1) dzc2_cX11_lots_128 di_145 (Nat.zero_lt_succ _) rfl
theorem dX11_lots_144 : decode cX11_lots 144 = .ok (.iaload, 1) := dz1 (k := 16) (m := 1) dzc2_cX11_lots_128 di_30 (Nat.zero_lt_succ _) rfl
theorem dX11_lots_145 : decode cX11_lots 145 = .ok (.iload 7, 2) := dz1 (k := 17) (m := 2) dzc2_cX11_lots_128 di_117 (Nat.zero_lt_succ _) rfl
theorem dX11_lots_147 : decode cX11_lots 147 = .ok (.invokestatic 139, 3) := dz1 (k := 19) (m := 3) dzc2_cX11_lots_128 di_587 (Nat.zero_lt_succ _) rfl
theorem dX11_lots_150 : decode cX11_lots 150 = .ok (.ifCond .ne 15, 3) := dz1 (k := 22) (m := 3) dzc2_cX11_lots_128 di_637 (Nat.zero_lt_succ _) rfl
theorem dX11_lots_153 : decode cX11_lots 153 = .ok (.iload 7, 2) := dz1 (k := 25) (m := 2) dzc2_cX11_lots_128 di_117 (Nat.zero_lt_succ _) rfl
theorem dX11_lots_155 : decode cX11_lots 155 = .ok (.bipush 12, 2) := dz1 (k := 27) (m := 2) dzc2_cX11_lots_128 di_126 (Nat.zero_lt_succ _) rfl
theorem dX11_lots_157 : decode cX11_lots 157 = .ok (.irem, 1) := dz1 (k := 29) (m := 1) dzc2_cX11_lots_128 di_5 (Nat.zero_lt_succ _) rfl
theorem dX11_lots_158 : decode cX11_lots 158 = .ok (.iconst 1, 1) := dz1 (k := 30) (m := 1) dzc2_cX11_lots_128 di_10 (Nat.zero_lt_succ _) rfl
theorem dX11_lots_159 : decode cX11_lots 159 = .ok (.iadd, 1) := dz1 (k := 31) (m := 1) dzc2_cX11_lots_128 di_24 (Nat.zero_lt_succ _) rfl
set_option maxRecDepth 100000 in
theorem dzc2_cX11_lots_160 : DzLies cX11_lots (.mk ⟨[0x36, 0x07, 0xa7, 0xff, 0xe9, 0x2a, 0x03, 0x15, 0x07, 0xb6, 0x00, 0xa7, 0x57, 0x84, 0x05, 0x01, 0xa7, 0xff, 0x88, 0x2a, 0xb4, 0x00, 0x26, 0x07, 0x2e, 0xac]⟩) 160 := dz_lies (m := 26) (Nat.zero_lt_succ _) rfl
theorem dX11_lots_160 : decode cX11_lots 160 = .ok (.istore 7, 2) := dz1 (k := 0) (m := 2) dzc2_cX11_lots_160 di_116 (Nat.zero_lt_succ _) rfl
theorem dX11_lots_162 : decode cX11_lots 162 = .ok (.goto (-23), 3) := dz1 (k := 2) (m := 3) dzc2_cX11_lots_160 di_32 (Nat.zero_lt_succ _) rfl
theorem dX11_lots_165 : decode cX11_lots 165 = .ok (.aload_n 0, 1) := dz1 (k := 5) (m := 1) dzc2_cX11_lots_160 di_0 (Nat.zero_lt_succ _) rfl
theorem dX11_lots_166 : decode cX11_lots 166 = .ok (.iconst 0, 1) := dz1 (k := 6) (m := 1) dzc2_cX11_lots_160 di_8 (Nat.zero_lt_succ _) rfl
theorem dX11_lots_167 : decode cX11_lots 167 = .ok (.iload 7, 2) := dz1 (k := 7) (m := 2) dzc2_cX11_lots_160 di_117 (Nat.zero_lt_succ _) rfl
theorem dX11_lots_169 : decode cX11_lots 169 = .ok (.invokevirtual 167, 3) := dz1 (k := 9) (m := 3) dzc2_cX11_lots_160 di_295 (Nat.zero_lt_succ _) rfl
theorem dX11_lots_172 : decode cX11_lots 172 = .ok (.pop, 1) := dz1 (k := 12) (m := 1) dzc2_cX11_lots_160 di_331 (Nat.zero_lt_succ _) rfl
theorem dX11_lots_173 : decode cX11_lots 173 = .ok (.iinc 5 1, 3) := dz1 (k := 13) (m := 3) dzc2_cX11_lots_160 di_131 (Nat.zero_lt_succ _) rfl
theorem dX11_lots_176 : decode cX11_lots 176 = .ok (.goto (-120), 3) := dz1 (k := 16) (m := 3) dzc2_cX11_lots_160 di_696 (Nat.zero_lt_succ _) rfl
theorem dX11_lots_179 : decode cX11_lots 179 = .ok (.aload_n 0, 1) := dz1 (k := 19) (m := 1) dzc2_cX11_lots_160 di_0 (Nat.zero_lt_succ _) rfl
theorem dX11_lots_180 : decode cX11_lots 180 = .ok (.getfield 38, 3) := dz1 (k := 20) (m := 3) dzc2_cX11_lots_160 di_574 (Nat.zero_lt_succ _) rfl
theorem dX11_lots_183 : decode cX11_lots 183 = .ok (.iconst 4, 1) := dz1 (k := 23) (m := 1) dzc2_cX11_lots_160 di_33 (Nat.zero_lt_succ _) rfl
theorem dX11_lots_184 : decode cX11_lots 184 = .ok (.iaload, 1) := dz1 (k := 24) (m := 1) dzc2_cX11_lots_160 di_30 (Nat.zero_lt_succ _) rfl
theorem dX11_lots_185 : decode cX11_lots 185 = .ok (.ireturn, 1) := dz1 (k := 25) (m := 1) dzc2_cX11_lots_160 di_13 (Nat.zero_lt_succ _) rfl
set_option maxRecDepth 100000 in
theorem dzc2_cX11_asked_0 : DzLies cX11_asked (.mk ⟨[0x2a, 0xb4, 0x00, 0x40, 0xac]⟩) 0 := dz_lies (m := 5) (Nat.zero_lt_succ _) rfl
theorem dX11_asked_0 : decode cX11_asked 0 = .ok (.aload_n 0, 1) := dz1 (k := 0) (m := 1) dzc2_cX11_asked_0 di_0 (Nat.zero_lt_succ _) rfl
theorem dX11_asked_1 : decode cX11_asked 1 = .ok (.getfield 64, 3) := dz1 (k := 1) (m := 3) dzc2_cX11_asked_0 di_435 (Nat.zero_lt_succ _) rfl
theorem dX11_asked_4 : decode cX11_asked 4 = .ok (.ireturn, 1) := dz1 (k := 4) (m := 1) dzc2_cX11_asked_0 di_13 (Nat.zero_lt_succ _) rfl
set_option maxRecDepth 100000 in
theorem dzc2_cX11_upper_0 : DzLies cX11_upper (.mk ⟨[0x2a, 0xb4, 0x00, 0xcc, 0xad]⟩) 0 := dz_lies (m := 5) (Nat.zero_lt_succ _) rfl
theorem dX11_upper_0 : decode cX11_upper 0 = .ok (.aload_n 0, 1) := dz1 (k := 0) (m := 1) dzc2_cX11_upper_0 di_0 (Nat.zero_lt_succ _) rfl
theorem dX11_upper_1 : decode cX11_upper 1 = .ok (.getfield 204, 3) := dz1 (k := 1) (m := 3) dzc2_cX11_upper_0 di_697 (Nat.zero_lt_succ _) rfl
theorem dX11_upper_4 : decode cX11_upper 4 = .ok (.lreturn, 1) := dz1 (k := 4) (m := 1) dzc2_cX11_upper_0 di_385 (Nat.zero_lt_succ _) rfl
set_option maxRecDepth 100000 in
theorem dzc2_cX11_lower_0 : DzLies cX11_lower (.mk ⟨[0x2a, 0xb4, 0x00, 0x2c, 0xad]⟩) 0 := dz_lies (m := 5) (Nat.zero_lt_succ _) rfl
theorem dX11_lower_0 : decode cX11_lower 0 = .ok (.aload_n 0, 1) := dz1 (k := 0) (m := 1) dzc2_cX11_lower_0 di_0 (Nat.zero_lt_succ _) rfl
theorem dX11_lower_1 : decode cX11_lower 1 = .ok (.getfield 44, 3) := dz1 (k := 1) (m := 3) dzc2_cX11_lower_0 di_698 (Nat.zero_lt_succ _) rfl
theorem dX11_lower_4 : decode cX11_lower 4 = .ok (.lreturn, 1) := dz1 (k := 4) (m := 1) dzc2_cX11_lower_0 di_385 (Nat.zero_lt_succ _) rfl
set_option maxRecDepth 100000 in
theorem dzc2_cX11_manyOf_0 : DzLies cX11_manyOf (.mk ⟨[0x03, 0x3d, 0x03, 0x3e, 0x1d, 0x2a, 0xb4, 0x00, 0x7c, 0xa2, 0x00, 0x1e, 0x1c, 0x2a, 0xb4, 0x00, 0x1a, 0x1d, 0x2e, 0x1b, 0xb8, 0x00, 0x82, 0x99, 0x00, 0x07, 0x04, 0xa7, 0x00, 0x04, 0x03, 0x60]⟩) 0 := dz_lies (m := 32) (Nat.zero_lt_succ _) rfl
theorem dX11_manyOf_0 : decode cX11_manyOf 0 = .ok (.iconst 0, 1) := dz1 (k := 0) (m := 1) dzc2_cX11_manyOf_0 di_8 (Nat.zero_lt_succ _) rfl
theorem dX11_manyOf_1 : decode cX11_manyOf 1 = .ok (.istore_n 2, 1) := dz1 (k := 1) (m := 1) dzc2_cX11_manyOf_0 di_27 (Nat.zero_lt_succ _) rfl
theorem dX11_manyOf_2 : decode cX11_manyOf 2 = .ok (.iconst 0, 1) := dz1 (k := 2) (m := 1) dzc2_cX11_manyOf_0 di_8 (Nat.zero_lt_succ _) rfl
theorem dX11_manyOf_3 : decode cX11_manyOf 3 = .ok (.istore_n 3, 1) := dz1 (k := 3) (m := 1) dzc2_cX11_manyOf_0 di_50 (Nat.zero_lt_succ _) rfl
theorem dX11_manyOf_4 : decode cX11_manyOf 4 = .ok (.iload_n 3, 1) := dz1 (k := 4) (m := 1) dzc2_cX11_manyOf_0 di_3 (Nat.zero_lt_succ _) rfl
theorem dX11_manyOf_5 : decode cX11_manyOf 5 = .ok (.aload_n 0, 1) := dz1 (k := 5) (m := 1) dzc2_cX11_manyOf_0 di_0 (Nat.zero_lt_succ _) rfl
theorem dX11_manyOf_6 : decode cX11_manyOf 6 = .ok (.getfield 124, 3) := dz1 (k := 6) (m := 3) dzc2_cX11_manyOf_0 di_572 (Nat.zero_lt_succ _) rfl
theorem dX11_manyOf_9 : decode cX11_manyOf 9 = .ok (.if_icmp .ge 30, 3) := dz1 (k := 9) (m := 3) dzc2_cX11_manyOf_0 di_168 (Nat.zero_lt_succ _) rfl
theorem dX11_manyOf_12 : decode cX11_manyOf 12 = .ok (.iload_n 2, 1) := dz1 (k := 12) (m := 1) dzc2_cX11_manyOf_0 di_28 (Nat.zero_lt_succ _) rfl
theorem dX11_manyOf_13 : decode cX11_manyOf 13 = .ok (.aload_n 0, 1) := dz1 (k := 13) (m := 1) dzc2_cX11_manyOf_0 di_0 (Nat.zero_lt_succ _) rfl
theorem dX11_manyOf_14 : decode cX11_manyOf 14 = .ok (.getfield 26, 3) := dz1 (k := 14) (m := 3) dzc2_cX11_manyOf_0 di_573 (Nat.zero_lt_succ _) rfl
theorem dX11_manyOf_17 : decode cX11_manyOf 17 = .ok (.iload_n 3, 1) := dz1 (k := 17) (m := 1) dzc2_cX11_manyOf_0 di_3 (Nat.zero_lt_succ _) rfl
theorem dX11_manyOf_18 : decode cX11_manyOf 18 = .ok (.iaload, 1) := dz1 (k := 18) (m := 1) dzc2_cX11_manyOf_0 di_30 (Nat.zero_lt_succ _) rfl
theorem dX11_manyOf_19 : decode cX11_manyOf 19 = .ok (.iload_n 1, 1) := dz1 (k := 19) (m := 1) dzc2_cX11_manyOf_0 di_11 (Nat.zero_lt_succ _) rfl
theorem dX11_manyOf_20 : decode cX11_manyOf 20 = .ok (.invokestatic 130, 3) := dz1 (k := 20) (m := 3) dzc2_cX11_manyOf_0 di_581 (Nat.zero_lt_succ _) rfl
theorem dX11_manyOf_23 : decode cX11_manyOf 23 = .ok (.ifCond .eq 7, 3) := dz1 (k := 23) (m := 3) dzc2_cX11_manyOf_0 di_608 (Nat.zero_lt_succ _) rfl
theorem dX11_manyOf_26 : decode cX11_manyOf 26 = .ok (.iconst 1, 1) := dz1 (k := 26) (m := 1) dzc2_cX11_manyOf_0 di_10 (Nat.zero_lt_succ _) rfl
theorem dX11_manyOf_27 : decode cX11_manyOf 27 = .ok (.goto 4, 3) := dz1 (k := 27) (m := 3) dzc2_cX11_manyOf_0 di_49 (Nat.zero_lt_succ _) rfl
theorem dX11_manyOf_30 : decode cX11_manyOf 30 = .ok (.iconst 0, 1) := dz1 (k := 30) (m := 1) dzc2_cX11_manyOf_0 di_8 (Nat.zero_lt_succ _) rfl
theorem dX11_manyOf_31 : decode cX11_manyOf 31 = .ok (.iadd, 1) := dz1 (k := 31) (m := 1) dzc2_cX11_manyOf_0 di_24 (Nat.zero_lt_succ _) rfl
set_option maxRecDepth 100000 in
theorem dzc2_cX11_manyOf_32 : DzLies cX11_manyOf (.mk ⟨[0x3d, 0x84, 0x03, 0x01, 0xa7, 0xff, 0xe0, 0x1c, 0xac]⟩) 32 := dz_lies (m := 9) (Nat.zero_lt_succ _) rfl
theorem dX11_manyOf_32 : decode cX11_manyOf 32 = .ok (.istore_n 2, 1) := dz1 (k := 0) (m := 1) dzc2_cX11_manyOf_32 di_27 (Nat.zero_lt_succ _) rfl
theorem dX11_manyOf_33 : decode cX11_manyOf 33 = .ok (.iinc 3 1, 3) := dz1 (k := 1) (m := 3) dzc2_cX11_manyOf_32 di_94 (Nat.zero_lt_succ _) rfl
theorem dX11_manyOf_36 : decode cX11_manyOf 36 = .ok (.goto (-32), 3) := dz1 (k := 4) (m := 3) dzc2_cX11_manyOf_32 di_491 (Nat.zero_lt_succ _) rfl
theorem dX11_manyOf_39 : decode cX11_manyOf 39 = .ok (.iload_n 2, 1) := dz1 (k := 7) (m := 1) dzc2_cX11_manyOf_32 di_28 (Nat.zero_lt_succ _) rfl
theorem dX11_manyOf_40 : decode cX11_manyOf 40 = .ok (.ireturn, 1) := dz1 (k := 8) (m := 1) dzc2_cX11_manyOf_32 di_13 (Nat.zero_lt_succ _) rfl
set_option maxRecDepth 100000 in
theorem dzc2_cX11_allMarks_0 : DzLies cX11_allMarks (.mk ⟨[0x03, 0x3c, 0x03, 0x3d, 0x1c, 0x2a, 0xb4, 0x00, 0x7c, 0xa2, 0x00, 0x15, 0x1b, 0x2a, 0xb4, 0x00, 0x26, 0x1c, 0x2e, 0xb8, 0x00, 0x85, 0x60, 0x3c, 0x84, 0x02, 0x01, 0xa7, 0xff, 0xe9, 0x1b, 0xac]⟩) 0 := dz_lies (m := 32) (Nat.zero_lt_succ _) rfl
theorem dX11_allMarks_0 : decode cX11_allMarks 0 = .ok (.iconst 0, 1) := dz1 (k := 0) (m := 1) dzc2_cX11_allMarks_0 di_8 (Nat.zero_lt_succ _) rfl
theorem dX11_allMarks_1 : decode cX11_allMarks 1 = .ok (.istore_n 1, 1) := dz1 (k := 1) (m := 1) dzc2_cX11_allMarks_0 di_68 (Nat.zero_lt_succ _) rfl
theorem dX11_allMarks_2 : decode cX11_allMarks 2 = .ok (.iconst 0, 1) := dz1 (k := 2) (m := 1) dzc2_cX11_allMarks_0 di_8 (Nat.zero_lt_succ _) rfl
theorem dX11_allMarks_3 : decode cX11_allMarks 3 = .ok (.istore_n 2, 1) := dz1 (k := 3) (m := 1) dzc2_cX11_allMarks_0 di_27 (Nat.zero_lt_succ _) rfl
theorem dX11_allMarks_4 : decode cX11_allMarks 4 = .ok (.iload_n 2, 1) := dz1 (k := 4) (m := 1) dzc2_cX11_allMarks_0 di_28 (Nat.zero_lt_succ _) rfl
theorem dX11_allMarks_5 : decode cX11_allMarks 5 = .ok (.aload_n 0, 1) := dz1 (k := 5) (m := 1) dzc2_cX11_allMarks_0 di_0 (Nat.zero_lt_succ _) rfl
theorem dX11_allMarks_6 : decode cX11_allMarks 6 = .ok (.getfield 124, 3) := dz1 (k := 6) (m := 3) dzc2_cX11_allMarks_0 di_572 (Nat.zero_lt_succ _) rfl
theorem dX11_allMarks_9 : decode cX11_allMarks 9 = .ok (.if_icmp .ge 21, 3) := dz1 (k := 9) (m := 3) dzc2_cX11_allMarks_0 di_29 (Nat.zero_lt_succ _) rfl
theorem dX11_allMarks_12 : decode cX11_allMarks 12 = .ok (.iload_n 1, 1) := dz1 (k := 12) (m := 1) dzc2_cX11_allMarks_0 di_11 (Nat.zero_lt_succ _) rfl
theorem dX11_allMarks_13 : decode cX11_allMarks 13 = .ok (.aload_n 0, 1) := dz1 (k := 13) (m := 1) dzc2_cX11_allMarks_0 di_0 (Nat.zero_lt_succ _) rfl
theorem dX11_allMarks_14 : decode cX11_allMarks 14 = .ok (.getfield 38, 3) := dz1 (k := 14) (m := 3) dzc2_cX11_allMarks_0 di_574 (Nat.zero_lt_succ _) rfl
theorem dX11_allMarks_17 : decode cX11_allMarks 17 = .ok (.iload_n 2, 1) := dz1 (k := 17) (m := 1) dzc2_cX11_allMarks_0 di_28 (Nat.zero_lt_succ _) rfl
theorem dX11_allMarks_18 : decode cX11_allMarks 18 = .ok (.iaload, 1) := dz1 (k := 18) (m := 1) dzc2_cX11_allMarks_0 di_30 (Nat.zero_lt_succ _) rfl
theorem dX11_allMarks_19 : decode cX11_allMarks 19 = .ok (.invokestatic 133, 3) := dz1 (k := 19) (m := 3) dzc2_cX11_allMarks_0 di_582 (Nat.zero_lt_succ _) rfl
theorem dX11_allMarks_22 : decode cX11_allMarks 22 = .ok (.iadd, 1) := dz1 (k := 22) (m := 1) dzc2_cX11_allMarks_0 di_24 (Nat.zero_lt_succ _) rfl
theorem dX11_allMarks_23 : decode cX11_allMarks 23 = .ok (.istore_n 1, 1) := dz1 (k := 23) (m := 1) dzc2_cX11_allMarks_0 di_68 (Nat.zero_lt_succ _) rfl
theorem dX11_allMarks_24 : decode cX11_allMarks 24 = .ok (.iinc 2 1, 3) := dz1 (k := 24) (m := 3) dzc2_cX11_allMarks_0 di_31 (Nat.zero_lt_succ _) rfl
theorem dX11_allMarks_27 : decode cX11_allMarks 27 = .ok (.goto (-23), 3) := dz1 (k := 27) (m := 3) dzc2_cX11_allMarks_0 di_32 (Nat.zero_lt_succ _) rfl
theorem dX11_allMarks_30 : decode cX11_allMarks 30 = .ok (.iload_n 1, 1) := dz1 (k := 30) (m := 1) dzc2_cX11_allMarks_0 di_11 (Nat.zero_lt_succ _) rfl
theorem dX11_allMarks_31 : decode cX11_allMarks 31 = .ok (.ireturn, 1) := dz1 (k := 31) (m := 1) dzc2_cX11_allMarks_0 di_13 (Nat.zero_lt_succ _) rfl
set_option maxRecDepth 100000 in
theorem dzc2_cX11_thereAre_0 : DzLies cX11_thereAre (.mk ⟨[0x03, 0x3d, 0x03, 0x3e, 0x1d, 0x1b, 0x10, 0x09, 0xa0, 0x00, 0x08, 0x10, 0x06, 0xa7, 0x00, 0x0e, 0x1b, 0x10, 0x0a, 0xa0, 0x00, 0x07, 0x07, 0xa7, 0x00, 0x04, 0x06, 0xa2, 0x00, 0x38, 0x1c, 0x1b]⟩) 0 := dz_lies (m := 32) (Nat.zero_lt_succ _) rfl
theorem dX11_thereAre_0 : decode cX11_thereAre 0 = .ok (.iconst 0, 1) := dz1 (k := 0) (m := 1) dzc2_cX11_thereAre_0 di_8 (Nat.zero_lt_succ _) rfl
theorem dX11_thereAre_1 : decode cX11_thereAre 1 = .ok (.istore_n 2, 1) := dz1 (k := 1) (m := 1) dzc2_cX11_thereAre_0 di_27 (Nat.zero_lt_succ _) rfl
theorem dX11_thereAre_2 : decode cX11_thereAre 2 = .ok (.iconst 0, 1) := dz1 (k := 2) (m := 1) dzc2_cX11_thereAre_0 di_8 (Nat.zero_lt_succ _) rfl
theorem dX11_thereAre_3 : decode cX11_thereAre 3 = .ok (.istore_n 3, 1) := dz1 (k := 3) (m := 1) dzc2_cX11_thereAre_0 di_50 (Nat.zero_lt_succ _) rfl
theorem dX11_thereAre_4 : decode cX11_thereAre 4 = .ok (.iload_n 3, 1) := dz1 (k := 4) (m := 1) dzc2_cX11_thereAre_0 di_3 (Nat.zero_lt_succ _) rfl
theorem dX11_thereAre_5 : decode cX11_thereAre 5 = .ok (.iload_n 1, 1) := dz1 (k := 5) (m := 1) dzc2_cX11_thereAre_0 di_11 (Nat.zero_lt_succ _) rfl
theorem dX11_thereAre_6 : decode cX11_thereAre 6 = .ok (.bipush 9, 2) := dz1 (k := 6) (m := 2) dzc2_cX11_thereAre_0 di_656 (Nat.zero_lt_succ _) rfl
theorem dX11_thereAre_8 : decode cX11_thereAre 8 = .ok (.if_icmp .ne 8, 3) := dz1 (k := 8) (m := 3) dzc2_cX11_thereAre_0 di_578 (Nat.zero_lt_succ _) rfl
theorem dX11_thereAre_11 : decode cX11_thereAre 11 = .ok (.bipush 6, 2) := dz1 (k := 11) (m := 2) dzc2_cX11_thereAre_0 di_86 (Nat.zero_lt_succ _) rfl
theorem dX11_thereAre_13 : decode cX11_thereAre 13 = .ok (.goto 14, 3) := dz1 (k := 13) (m := 3) dzc2_cX11_thereAre_0 di_477 (Nat.zero_lt_succ _) rfl
theorem dX11_thereAre_16 : decode cX11_thereAre 16 = .ok (.iload_n 1, 1) := dz1 (k := 16) (m := 1) dzc2_cX11_thereAre_0 di_11 (Nat.zero_lt_succ _) rfl
theorem dX11_thereAre_17 : decode cX11_thereAre 17 = .ok (.bipush 10, 2) := dz1 (k := 17) (m := 2) dzc2_cX11_thereAre_0 di_73 (Nat.zero_lt_succ _) rfl
theorem dX11_thereAre_19 : decode cX11_thereAre 19 = .ok (.if_icmp .ne 7, 3) := dz1 (k := 19) (m := 3) dzc2_cX11_thereAre_0 di_7 (Nat.zero_lt_succ _) rfl
theorem dX11_thereAre_22 : decode cX11_thereAre 22 = .ok (.iconst 4, 1) := dz1 (k := 22) (m := 1) dzc2_cX11_thereAre_0 di_33 (Nat.zero_lt_succ _) rfl
theorem dX11_thereAre_23 : decode cX11_thereAre 23 = .ok (.goto 4, 3) := dz1 (k := 23) (m := 3) dzc2_cX11_thereAre_0 di_49 (Nat.zero_lt_succ _) rfl
theorem dX11_thereAre_26 : decode cX11_thereAre 26 = .ok (.iconst 3, 1) := dz1 (k := 26) (m := 1) dzc2_cX11_thereAre_0 di_4 (Nat.zero_lt_succ _) rfl
theorem dX11_thereAre_27 : decode cX11_thereAre 27 = .ok (.if_icmp .ge 56, 3) := dz1 (k := 27) (m := 3) dzc2_cX11_thereAre_0 di_418 (Nat.zero_lt_succ _) rfl
theorem dX11_thereAre_30 : decode cX11_thereAre 30 = .ok (.iload_n 2, 1) := dz1 (k := 30) (m := 1) dzc2_cX11_thereAre_0 di_28 (Nat.zero_lt_succ _) rfl
theorem dX11_thereAre_31 : decode cX11_thereAre 31 = .ok (.iload_n 1, 1) := dz1 (k := 31) (m := 1) dzc2_cX11_thereAre_0 di_11 (Nat.zero_lt_succ _) rfl
set_option maxRecDepth 100000 in
theorem dzc2_cX11_thereAre_32 : DzLies cX11_thereAre (.mk ⟨[0x10, 0x09, 0xa0, 0x00, 0x0c, 0x2a, 0xb4, 0x00, 0x07, 0x1d, 0x2e, 0xa7, 0x00, 0x18, 0x1b, 0x10, 0x0a, 0xa0, 0x00, 0x0c, 0x2a, 0xb4, 0x00, 0x13, 0x1d, 0x2e, 0xa7, 0x00, 0x09, 0x2a, 0xb4, 0x00, 0x29]⟩) 32 := dz_lies (m := 33) (Nat.zero_lt_succ _) rfl
theorem dX11_thereAre_32 : decode cX11_thereAre 32 = .ok (.bipush 9, 2) := dz1 (k := 0) (m := 2) dzc2_cX11_thereAre_32 di_656 (Nat.zero_lt_succ _) rfl
theorem dX11_thereAre_34 : decode cX11_thereAre 34 = .ok (.if_icmp .ne 12, 3) := dz1 (k := 2) (m := 3) dzc2_cX11_thereAre_32 di_579 (Nat.zero_lt_succ _) rfl
theorem dX11_thereAre_37 : decode cX11_thereAre 37 = .ok (.aload_n 0, 1) := dz1 (k := 5) (m := 1) dzc2_cX11_thereAre_32 di_0 (Nat.zero_lt_succ _) rfl
theorem dX11_thereAre_38 : decode cX11_thereAre 38 = .ok (.getfield 7, 3) := dz1 (k := 6) (m := 3) dzc2_cX11_thereAre_32 di_514 (Nat.zero_lt_succ _) rfl
theorem dX11_thereAre_41 : decode cX11_thereAre 41 = .ok (.iload_n 3, 1) := dz1 (k := 9) (m := 1) dzc2_cX11_thereAre_32 di_3 (Nat.zero_lt_succ _) rfl
theorem dX11_thereAre_42 : decode cX11_thereAre 42 = .ok (.iaload, 1) := dz1 (k := 10) (m := 1) dzc2_cX11_thereAre_32 di_30 (Nat.zero_lt_succ _) rfl
theorem dX11_thereAre_43 : decode cX11_thereAre 43 = .ok (.goto 24, 3) := dz1 (k := 11) (m := 3) dzc2_cX11_thereAre_32 di_432 (Nat.zero_lt_succ _) rfl
theorem dX11_thereAre_46 : decode cX11_thereAre 46 = .ok (.iload_n 1, 1) := dz1 (k := 14) (m := 1) dzc2_cX11_thereAre_32 di_11 (Nat.zero_lt_succ _) rfl
theorem dX11_thereAre_47 : decode cX11_thereAre 47 = .ok (.bipush 10, 2) := dz1 (k := 15) (m := 2) dzc2_cX11_thereAre_32 di_73 (Nat.zero_lt_succ _) rfl
theorem dX11_thereAre_49 : decode cX11_thereAre 49 = .ok (.if_icmp .ne 12, 3) := dz1 (k := 17) (m := 3) dzc2_cX11_thereAre_32 di_579 (Nat.zero_lt_succ _) rfl
theorem dX11_thereAre_52 : decode cX11_thereAre 52 = .ok (.aload_n 0, 1) := dz1 (k := 20) (m := 1) dzc2_cX11_thereAre_32 di_0 (Nat.zero_lt_succ _) rfl
theorem dX11_thereAre_53 : decode cX11_thereAre 53 = .ok (.getfield 19, 3) := dz1 (k := 21) (m := 3) dzc2_cX11_thereAre_32 di_515 (Nat.zero_lt_succ _) rfl
theorem dX11_thereAre_56 : decode cX11_thereAre 56 = .ok (.iload_n 3, 1) := dz1 (k := 24) (m := 1) dzc2_cX11_thereAre_32 di_3 (Nat.zero_lt_succ _) rfl
theorem dX11_thereAre_57 : decode cX11_thereAre 57 = .ok (.iaload, 1) := dz1 (k := 25) (m := 1) dzc2_cX11_thereAre_32 di_30 (Nat.zero_lt_succ _) rfl
theorem dX11_thereAre_58 : decode cX11_thereAre 58 = .ok (.goto 9, 3) := dz1 (k := 26) (m := 3) dzc2_cX11_thereAre_32 di_651 (Nat.zero_lt_succ _) rfl
theorem dX11_thereAre_61 : decode cX11_thereAre 61 = .ok (.aload_n 0, 1) := dz1 (k := 29) (m := 1) dzc2_cX11_thereAre_32 di_0 (Nat.zero_lt_succ _) rfl
theorem dX11_thereAre_62 : decode cX11_thereAre 62 = .ok (.getfield 41, 3) := dz1 (k := 30) (m := 3) dzc2_cX11_thereAre_32 di_517 (Nat.zero_lt_succ _) rfl
set_option maxRecDepth 100000 in
theorem dzc2_cX11_thereAre_64 : DzLies cX11_thereAre (.mk ⟨[0x29, 0x1d, 0x2e, 0x9c, 0x00, 0x07, 0x03, 0xa7, 0x00, 0x04, 0x04, 0x60, 0x3d, 0x84, 0x03, 0x01, 0xa7, 0xff, 0xb4, 0x1c, 0xac]⟩) 64 := dz_lies (m := 21) (Nat.zero_lt_succ _) rfl
theorem dX11_thereAre_65 : decode cX11_thereAre 65 = .ok (.iload_n 3, 1) := dz1 (k := 1) (m := 1) dzc2_cX11_thereAre_64 di_3 (Nat.zero_lt_succ _) rfl
theorem dX11_thereAre_66 : decode cX11_thereAre 66 = .ok (.iaload, 1) := dz1 (k := 2) (m := 1) dzc2_cX11_thereAre_64 di_30 (Nat.zero_lt_succ _) rfl
theorem dX11_thereAre_67 : decode cX11_thereAre 67 = .ok (.ifCond .ge 7, 3) := dz1 (k := 3) (m := 3) dzc2_cX11_thereAre_64 di_699 (Nat.zero_lt_succ _) rfl
theorem dX11_thereAre_70 : decode cX11_thereAre 70 = .ok (.iconst 0, 1) := dz1 (k := 6) (m := 1) dzc2_cX11_thereAre_64 di_8 (Nat.zero_lt_succ _) rfl
theorem dX11_thereAre_71 : decode cX11_thereAre 71 = .ok (.goto 4, 3) := dz1 (k := 7) (m := 3) dzc2_cX11_thereAre_64 di_49 (Nat.zero_lt_succ _) rfl
theorem dX11_thereAre_74 : decode cX11_thereAre 74 = .ok (.iconst 1, 1) := dz1 (k := 10) (m := 1) dzc2_cX11_thereAre_64 di_10 (Nat.zero_lt_succ _) rfl
theorem dX11_thereAre_75 : decode cX11_thereAre 75 = .ok (.iadd, 1) := dz1 (k := 11) (m := 1) dzc2_cX11_thereAre_64 di_24 (Nat.zero_lt_succ _) rfl
theorem dX11_thereAre_76 : decode cX11_thereAre 76 = .ok (.istore_n 2, 1) := dz1 (k := 12) (m := 1) dzc2_cX11_thereAre_64 di_27 (Nat.zero_lt_succ _) rfl
theorem dX11_thereAre_77 : decode cX11_thereAre 77 = .ok (.iinc 3 1, 3) := dz1 (k := 13) (m := 3) dzc2_cX11_thereAre_64 di_94 (Nat.zero_lt_succ _) rfl
theorem dX11_thereAre_80 : decode cX11_thereAre 80 = .ok (.goto (-76), 3) := dz1 (k := 16) (m := 3) dzc2_cX11_thereAre_64 di_700 (Nat.zero_lt_succ _) rfl
theorem dX11_thereAre_83 : decode cX11_thereAre 83 = .ok (.iload_n 2, 1) := dz1 (k := 19) (m := 1) dzc2_cX11_thereAre_64 di_28 (Nat.zero_lt_succ _) rfl
theorem dX11_thereAre_84 : decode cX11_thereAre 84 = .ok (.ireturn, 1) := dz1 (k := 20) (m := 1) dzc2_cX11_thereAre_64 di_13 (Nat.zero_lt_succ _) rfl
set_option maxRecDepth 100000 in
theorem dzc2_cX11_countOf_0 : DzLies cX11_countOf (.mk ⟨[0x1b, 0x10, 0x08, 0xa4, 0x00, 0x09, 0x2a, 0x1b, 0xb6, 0x00, 0xdf, 0xac, 0x1b, 0x9a, 0x00, 0x0a, 0x2a, 0xb4, 0x00, 0x7c, 0xa7, 0x00, 0x69, 0x1b, 0x04, 0xa0, 0x00, 0x0d, 0x2a, 0xb4, 0x00, 0x26]⟩) 0 := dz_lies (m := 32) (Nat.zero_lt_succ _) rfl
theorem dX11_countOf_0 : decode cX11_countOf 0 = .ok (.iload_n 1, 1) := dz1 (k := 0) (m := 1) dzc2_cX11_countOf_0 di_11 (Nat.zero_lt_succ _) rfl
theorem dX11_countOf_1 : decode cX11_countOf 1 = .ok (.bipush 8, 2) := dz1 (k := 1) (m := 2) dzc2_cX11_countOf_0 di_184 (Nat.zero_lt_succ _) rfl
theorem dX11_countOf_3 : decode cX11_countOf 3 = .ok (.if_icmp .le 9, 3) := dz1 (k := 3) (m := 3) dzc2_cX11_countOf_0 di_324 (Nat.zero_lt_succ _) rfl
theorem dX11_countOf_6 : decode cX11_countOf 6 = .ok (.aload_n 0, 1) := dz1 (k := 6) (m := 1) dzc2_cX11_countOf_0 di_0 (Nat.zero_lt_succ _) rfl
theorem dX11_countOf_7 : decode cX11_countOf 7 = .ok (.iload_n 1, 1) := dz1 (k := 7) (m := 1) dzc2_cX11_countOf_0 di_11 (Nat.zero_lt_succ _) rfl
theorem dX11_countOf_8 : decode cX11_countOf 8 = .ok (.invokevirtual 223, 3) := dz1 (k := 8) (m := 3) dzc2_cX11_countOf_0 di_701 (Nat.zero_lt_succ _) rfl
theorem dX11_countOf_11 : decode cX11_countOf 11 = .ok (.ireturn, 1) := dz1 (k := 11) (m := 1) dzc2_cX11_countOf_0 di_13 (Nat.zero_lt_succ _) rfl
theorem dX11_countOf_12 : decode cX11_countOf 12 = .ok (.iload_n 1, 1) := dz1 (k := 12) (m := 1) dzc2_cX11_countOf_0 di_11 (Nat.zero_lt_succ _) rfl
theorem dX11_countOf_13 : decode cX11_countOf 13 = .ok (.ifCond .ne 10, 3) := dz1 (k := 13) (m := 3) dzc2_cX11_countOf_0 di_338 (Nat.zero_lt_succ _) rfl
theorem dX11_countOf_16 : decode cX11_countOf 16 = .ok (.aload_n 0, 1) := dz1 (k := 16) (m := 1) dzc2_cX11_countOf_0 di_0 (Nat.zero_lt_succ _) rfl
theorem dX11_countOf_17 : decode cX11_countOf 17 = .ok (.getfield 124, 3) := dz1 (k := 17) (m := 3) dzc2_cX11_countOf_0 di_572 (Nat.zero_lt_succ _) rfl
theorem dX11_countOf_20 : decode cX11_countOf 20 = .ok (.goto 105, 3) := dz1 (k := 20) (m := 3) dzc2_cX11_countOf_0 di_702 (Nat.zero_lt_succ _) rfl
theorem dX11_countOf_23 : decode cX11_countOf 23 = .ok (.iload_n 1, 1) := dz1 (k := 23) (m := 1) dzc2_cX11_countOf_0 di_11 (Nat.zero_lt_succ _) rfl
theorem dX11_countOf_24 : decode cX11_countOf 24 = .ok (.iconst 1, 1) := dz1 (k := 24) (m := 1) dzc2_cX11_countOf_0 di_10 (Nat.zero_lt_succ _) rfl
theorem dX11_countOf_25 : decode cX11_countOf 25 = .ok (.if_icmp .ne 13, 3) := dz1 (k := 25) (m := 3) dzc2_cX11_countOf_0 di_585 (Nat.zero_lt_succ _) rfl
theorem dX11_countOf_28 : decode cX11_countOf 28 = .ok (.aload_n 0, 1) := dz1 (k := 28) (m := 1) dzc2_cX11_countOf_0 di_0 (Nat.zero_lt_succ _) rfl
theorem dX11_countOf_29 : decode cX11_countOf 29 = .ok (.getfield 38, 3) := dz1 (k := 29) (m := 3) dzc2_cX11_countOf_0 di_574 (Nat.zero_lt_succ _) rfl
set_option maxRecDepth 100000 in
theorem dzc2_cX11_countOf_32 : DzLies cX11_countOf (.mk ⟨[0x10, 0x06, 0x2e, 0xa7, 0x00, 0x5a, 0x1b, 0x05, 0xa0, 0x00, 0x0a, 0x2a, 0xb4, 0x00, 0x7f, 0xa7, 0x00, 0x4e, 0x1b, 0x06, 0xa0, 0x00, 0x0c, 0x2a, 0xb4, 0x00, 0x26, 0x08, 0x2e, 0xa7, 0x00, 0x40]⟩) 32 := dz_lies (m := 32) (Nat.zero_lt_succ _) rfl
theorem dX11_countOf_32 : decode cX11_countOf 32 = .ok (.bipush 6, 2) := dz1 (k := 0) (m := 2) dzc2_cX11_countOf_32 di_86 (Nat.zero_lt_succ _) rfl
theorem dX11_countOf_34 : decode cX11_countOf 34 = .ok (.iaload, 1) := dz1 (k := 2) (m := 1) dzc2_cX11_countOf_32 di_30 (Nat.zero_lt_succ _) rfl
theorem dX11_countOf_35 : decode cX11_countOf 35 = .ok (.goto 90, 3) := dz1 (k := 3) (m := 3) dzc2_cX11_countOf_32 di_703 (Nat.zero_lt_succ _) rfl
theorem dX11_countOf_38 : decode cX11_countOf 38 = .ok (.iload_n 1, 1) := dz1 (k := 6) (m := 1) dzc2_cX11_countOf_32 di_11 (Nat.zero_lt_succ _) rfl
theorem dX11_countOf_39 : decode cX11_countOf 39 = .ok (.iconst 2, 1) := dz1 (k := 7) (m := 1) dzc2_cX11_countOf_32 di_6 (Nat.zero_lt_succ _) rfl
theorem dX11_countOf_40 : decode cX11_countOf 40 = .ok (.if_icmp .ne 10, 3) := dz1 (k := 8) (m := 3) dzc2_cX11_countOf_32 di_340 (Nat.zero_lt_succ _) rfl
theorem dX11_countOf_43 : decode cX11_countOf 43 = .ok (.aload_n 0, 1) := dz1 (k := 11) (m := 1) dzc2_cX11_countOf_32 di_0 (Nat.zero_lt_succ _) rfl
theorem dX11_countOf_44 : decode cX11_countOf 44 = .ok (.getfield 127, 3) := dz1 (k := 12) (m := 3) dzc2_cX11_countOf_32 di_609 (Nat.zero_lt_succ _) rfl
theorem dX11_countOf_47 : decode cX11_countOf 47 = .ok (.goto 78, 3) := dz1 (k := 15) (m := 3) dzc2_cX11_countOf_32 di_704 (Nat.zero_lt_succ _) rfl
theorem dX11_countOf_50 : decode cX11_countOf 50 = .ok (.iload_n 1, 1) := dz1 (k := 18) (m := 1) dzc2_cX11_countOf_32 di_11 (Nat.zero_lt_succ _) rfl
theorem dX11_countOf_51 : decode cX11_countOf 51 = .ok (.iconst 3, 1) := dz1 (k := 19) (m := 1) dzc2_cX11_countOf_32 di_4 (Nat.zero_lt_succ _) rfl
theorem dX11_countOf_52 : decode cX11_countOf 52 = .ok (.if_icmp .ne 12, 3) := dz1 (k := 20) (m := 3) dzc2_cX11_countOf_32 di_579 (Nat.zero_lt_succ _) rfl
theorem dX11_countOf_55 : decode cX11_countOf 55 = .ok (.aload_n 0, 1) := dz1 (k := 23) (m := 1) dzc2_cX11_countOf_32 di_0 (Nat.zero_lt_succ _) rfl
theorem dX11_countOf_56 : decode cX11_countOf 56 = .ok (.getfield 38, 3) := dz1 (k := 24) (m := 3) dzc2_cX11_countOf_32 di_574 (Nat.zero_lt_succ _) rfl
theorem dX11_countOf_59 : decode cX11_countOf 59 = .ok (.iconst 5, 1) := dz1 (k := 27) (m := 1) dzc2_cX11_countOf_32 di_145 (Nat.zero_lt_succ _) rfl
theorem dX11_countOf_60 : decode cX11_countOf 60 = .ok (.iaload, 1) := dz1 (k := 28) (m := 1) dzc2_cX11_countOf_32 di_30 (Nat.zero_lt_succ _) rfl
theorem dX11_countOf_61 : decode cX11_countOf 61 = .ok (.goto 64, 3) := dz1 (k := 29) (m := 3) dzc2_cX11_countOf_32 di_705 (Nat.zero_lt_succ _) rfl
set_option maxRecDepth 100000 in
theorem dzc2_cX11_countOf_64 : DzLies cX11_countOf (.mk ⟨[0x1b, 0x07, 0xa0, 0x00, 0x0d, 0x2a, 0xb4, 0x00, 0x26, 0x10, 0x07, 0x2e, 0xa7, 0x00, 0x31, 0x1b, 0x08, 0xa0, 0x00, 0x0c, 0x2a, 0xb4, 0x00, 0x26, 0x07, 0x2e, 0xa7, 0x00, 0x23, 0x1b, 0x10, 0x06]⟩) 64 := dz_lies (m := 32) (Nat.zero_lt_succ _) rfl
theorem dX11_countOf_64 : decode cX11_countOf 64 = .ok (.iload_n 1, 1) := dz1 (k := 0) (m := 1) dzc2_cX11_countOf_64 di_11 (Nat.zero_lt_succ _) rfl
theorem dX11_countOf_65 : decode cX11_countOf 65 = .ok (.iconst 4, 1) := dz1 (k := 1) (m := 1) dzc2_cX11_countOf_64 di_33 (Nat.zero_lt_succ _) rfl
theorem dX11_countOf_66 : decode cX11_countOf 66 = .ok (.if_icmp .ne 13, 3) := dz1 (k := 2) (m := 3) dzc2_cX11_countOf_64 di_585 (Nat.zero_lt_succ _) rfl
theorem dX11_countOf_69 : decode cX11_countOf 69 = .ok (.aload_n 0, 1) := dz1 (k := 5) (m := 1) dzc2_cX11_countOf_64 di_0 (Nat.zero_lt_succ _) rfl
theorem dX11_countOf_70 : decode cX11_countOf 70 = .ok (.getfield 38, 3) := dz1 (k := 6) (m := 3) dzc2_cX11_countOf_64 di_574 (Nat.zero_lt_succ _) rfl
theorem dX11_countOf_73 : decode cX11_countOf 73 = .ok (.bipush 7, 2) := dz1 (k := 9) (m := 2) dzc2_cX11_countOf_64 di_83 (Nat.zero_lt_succ _) rfl
theorem dX11_countOf_75 : decode cX11_countOf 75 = .ok (.iaload, 1) := dz1 (k := 11) (m := 1) dzc2_cX11_countOf_64 di_30 (Nat.zero_lt_succ _) rfl
theorem dX11_countOf_76 : decode cX11_countOf 76 = .ok (.goto 49, 3) := dz1 (k := 12) (m := 3) dzc2_cX11_countOf_64 di_597 (Nat.zero_lt_succ _) rfl
theorem dX11_countOf_79 : decode cX11_countOf 79 = .ok (.iload_n 1, 1) := dz1 (k := 15) (m := 1) dzc2_cX11_countOf_64 di_11 (Nat.zero_lt_succ _) rfl
theorem dX11_countOf_80 : decode cX11_countOf 80 = .ok (.iconst 5, 1) := dz1 (k := 16) (m := 1) dzc2_cX11_countOf_64 di_145 (Nat.zero_lt_succ _) rfl
theorem dX11_countOf_81 : decode cX11_countOf 81 = .ok (.if_icmp .ne 12, 3) := dz1 (k := 17) (m := 3) dzc2_cX11_countOf_64 di_579 (Nat.zero_lt_succ _) rfl
theorem dX11_countOf_84 : decode cX11_countOf 84 = .ok (.aload_n 0, 1) := dz1 (k := 20) (m := 1) dzc2_cX11_countOf_64 di_0 (Nat.zero_lt_succ _) rfl
theorem dX11_countOf_85 : decode cX11_countOf 85 = .ok (.getfield 38, 3) := dz1 (k := 21) (m := 3) dzc2_cX11_countOf_64 di_574 (Nat.zero_lt_succ _) rfl
theorem dX11_countOf_88 : decode cX11_countOf 88 = .ok (.iconst 4, 1) := dz1 (k := 24) (m := 1) dzc2_cX11_countOf_64 di_33 (Nat.zero_lt_succ _) rfl
theorem dX11_countOf_89 : decode cX11_countOf 89 = .ok (.iaload, 1) := dz1 (k := 25) (m := 1) dzc2_cX11_countOf_64 di_30 (Nat.zero_lt_succ _) rfl
theorem dX11_countOf_90 : decode cX11_countOf 90 = .ok (.goto 35, 3) := dz1 (k := 26) (m := 3) dzc2_cX11_countOf_64 di_706 (Nat.zero_lt_succ _) rfl
theorem dX11_countOf_93 : decode cX11_countOf 93 = .ok (.iload_n 1, 1) := dz1 (k := 29) (m := 1) dzc2_cX11_countOf_64 di_11 (Nat.zero_lt_succ _) rfl
theorem dX11_countOf_94 : decode cX11_countOf 94 = .ok (.bipush 6, 2) := dz1 (k := 30) (m := 2) dzc2_cX11_countOf_64 di_86 (Nat.zero_lt_succ _) rfl
set_option maxRecDepth 100000 in
theorem dzc2_cX11_countOf_96 : DzLies cX11_countOf (.mk ⟨[0xa0, 0x00, 0x0a, 0x2a, 0xb6, 0x00, 0xe2, 0xa7, 0x00, 0x16, 0x1b, 0x10, 0x07, 0xa0, 0x00, 0x0b, 0x2a, 0x04, 0xb6, 0x00, 0xe6, 0xa7, 0x00, 0x08, 0x2a, 0x05, 0xb6, 0x00, 0xe6, 0xac]⟩) 96 := dz_lies (m := 30) (Nat.zero_lt_succ _) rfl
theorem dX11_countOf_96 : decode cX11_countOf 96 = .ok (.if_icmp .ne 10, 3) := dz1 (k := 0) (m := 3) dzc2_cX11_countOf_96 di_340 (Nat.zero_lt_succ _) rfl
theorem dX11_countOf_99 : decode cX11_countOf 99 = .ok (.aload_n 0, 1) := dz1 (k := 3) (m := 1) dzc2_cX11_countOf_96 di_0 (Nat.zero_lt_succ _) rfl
theorem dX11_countOf_100 : decode cX11_countOf 100 = .ok (.invokevirtual 226, 3) := dz1 (k := 4) (m := 3) dzc2_cX11_countOf_96 di_336 (Nat.zero_lt_succ _) rfl
theorem dX11_countOf_103 : decode cX11_countOf 103 = .ok (.goto 22, 3) := dz1 (k := 7) (m := 3) dzc2_cX11_countOf_96 di_598 (Nat.zero_lt_succ _) rfl
theorem dX11_countOf_106 : decode cX11_countOf 106 = .ok (.iload_n 1, 1) := dz1 (k := 10) (m := 1) dzc2_cX11_countOf_96 di_11 (Nat.zero_lt_succ _) rfl
theorem dX11_countOf_107 : decode cX11_countOf 107 = .ok (.bipush 7, 2) := dz1 (k := 11) (m := 2) dzc2_cX11_countOf_96 di_83 (Nat.zero_lt_succ _) rfl
theorem dX11_countOf_109 : decode cX11_countOf 109 = .ok (.if_icmp .ne 11, 3) := dz1 (k := 13) (m := 3) dzc2_cX11_countOf_96 di_604 (Nat.zero_lt_succ _) rfl
theorem dX11_countOf_112 : decode cX11_countOf 112 = .ok (.aload_n 0, 1) := dz1 (k := 16) (m := 1) dzc2_cX11_countOf_96 di_0 (Nat.zero_lt_succ _) rfl
theorem dX11_countOf_113 : decode cX11_countOf 113 = .ok (.iconst 1, 1) := dz1 (k := 17) (m := 1) dzc2_cX11_countOf_96 di_10 (Nat.zero_lt_succ _) rfl
theorem dX11_countOf_114 : decode cX11_countOf 114 = .ok (.invokevirtual 230, 3) := dz1 (k := 18) (m := 3) dzc2_cX11_countOf_96 di_707 (Nat.zero_lt_succ _) rfl
theorem dX11_countOf_117 : decode cX11_countOf 117 = .ok (.goto 8, 3) := dz1 (k := 21) (m := 3) dzc2_cX11_countOf_96 di_528 (Nat.zero_lt_succ _) rfl
theorem dX11_countOf_120 : decode cX11_countOf 120 = .ok (.aload_n 0, 1) := dz1 (k := 24) (m := 1) dzc2_cX11_countOf_96 di_0 (Nat.zero_lt_succ _) rfl
theorem dX11_countOf_121 : decode cX11_countOf 121 = .ok (.iconst 2, 1) := dz1 (k := 25) (m := 1) dzc2_cX11_countOf_96 di_6 (Nat.zero_lt_succ _) rfl
theorem dX11_countOf_122 : decode cX11_countOf 122 = .ok (.invokevirtual 230, 3) := dz1 (k := 26) (m := 3) dzc2_cX11_countOf_96 di_707 (Nat.zero_lt_succ _) rfl
theorem dX11_countOf_125 : decode cX11_countOf 125 = .ok (.ireturn, 1) := dz1 (k := 29) (m := 1) dzc2_cX11_countOf_96 di_13 (Nat.zero_lt_succ _) rfl
set_option maxRecDepth 100000 in
theorem dzc2_cX11_count_0 : DzLies cX11_count (.mk ⟨[0x1b, 0x85, 0x09, 0x14, 0x00, 0xe9, 0xb8, 0x00, 0x45, 0x99, 0x00, 0x0b, 0x2a, 0x1b, 0xb6, 0x00, 0xeb, 0xa7, 0x00, 0x04, 0x02, 0xac]⟩) 0 := dz_lies (m := 22) (Nat.zero_lt_succ _) rfl
theorem dX11_count_0 : decode cX11_count 0 = .ok (.iload_n 1, 1) := dz1 (k := 0) (m := 1) dzc2_cX11_count_0 di_11 (Nat.zero_lt_succ _) rfl
theorem dX11_count_1 : decode cX11_count 1 = .ok (.i2l, 1) := dz1 (k := 1) (m := 1) dzc2_cX11_count_0 di_250 (Nat.zero_lt_succ _) rfl
theorem dX11_count_2 : decode cX11_count 2 = .ok (.lconst 0, 1) := dz1 (k := 2) (m := 1) dzc2_cX11_count_0 di_246 (Nat.zero_lt_succ _) rfl
theorem dX11_count_3 : decode cX11_count 3 = .ok (.ldc2_w 233, 3) := dz1 (k := 3) (m := 3) dzc2_cX11_count_0 di_708 (Nat.zero_lt_succ _) rfl
theorem dX11_count_6 : decode cX11_count 6 = .ok (.invokestatic 69, 3) := dz1 (k := 6) (m := 3) dzc2_cX11_count_0 di_522 (Nat.zero_lt_succ _) rfl
theorem dX11_count_9 : decode cX11_count 9 = .ok (.ifCond .eq 11, 3) := dz1 (k := 9) (m := 3) dzc2_cX11_count_0 di_238 (Nat.zero_lt_succ _) rfl
theorem dX11_count_12 : decode cX11_count 12 = .ok (.aload_n 0, 1) := dz1 (k := 12) (m := 1) dzc2_cX11_count_0 di_0 (Nat.zero_lt_succ _) rfl
theorem dX11_count_13 : decode cX11_count 13 = .ok (.iload_n 1, 1) := dz1 (k := 13) (m := 1) dzc2_cX11_count_0 di_11 (Nat.zero_lt_succ _) rfl
theorem dX11_count_14 : decode cX11_count 14 = .ok (.invokevirtual 235, 3) := dz1 (k := 14) (m := 3) dzc2_cX11_count_0 di_709 (Nat.zero_lt_succ _) rfl
theorem dX11_count_17 : decode cX11_count 17 = .ok (.goto 4, 3) := dz1 (k := 17) (m := 3) dzc2_cX11_count_0 di_49 (Nat.zero_lt_succ _) rfl
theorem dX11_count_20 : decode cX11_count 20 = .ok (.iconst (-1), 1) := dz1 (k := 20) (m := 1) dzc2_cX11_count_0 di_65 (Nat.zero_lt_succ _) rfl
theorem dX11_count_21 : decode cX11_count 21 = .ok (.ireturn, 1) := dz1 (k := 21) (m := 1) dzc2_cX11_count_0 di_13 (Nat.zero_lt_succ _) rfl
set_option maxRecDepth 100000 in
theorem dzc2_cX11_finding_0 : DzLies cX11_finding (.mk ⟨[0x2a, 0xb4, 0x00, 0x3c, 0xac]⟩) 0 := dz_lies (m := 5) (Nat.zero_lt_succ _) rfl
theorem dX11_finding_0 : decode cX11_finding 0 = .ok (.aload_n 0, 1) := dz1 (k := 0) (m := 1) dzc2_cX11_finding_0 di_0 (Nat.zero_lt_succ _) rfl
theorem dX11_finding_1 : decode cX11_finding 1 = .ok (.getfield 60, 3) := dz1 (k := 1) (m := 3) dzc2_cX11_finding_0 di_227 (Nat.zero_lt_succ _) rfl
theorem dX11_finding_4 : decode cX11_finding 4 = .ok (.ireturn, 1) := dz1 (k := 4) (m := 1) dzc2_cX11_finding_0 di_13 (Nat.zero_lt_succ _) rfl
set_option maxRecDepth 100000 in
theorem dzc2_cX11_findings_0 : DzLies cX11_findings (.mk ⟨[0x1b, 0x85, 0x0a, 0x14, 0x00, 0x43, 0xb8, 0x00, 0x45, 0x99, 0x00, 0x0c, 0x2a, 0xb4, 0x00, 0x30, 0x1b, 0x2e, 0xa7, 0x00, 0x04, 0x02, 0xac]⟩) 0 := dz_lies (m := 23) (Nat.zero_lt_succ _) rfl
theorem dX11_findings_0 : decode cX11_findings 0 = .ok (.iload_n 1, 1) := dz1 (k := 0) (m := 1) dzc2_cX11_findings_0 di_11 (Nat.zero_lt_succ _) rfl
theorem dX11_findings_1 : decode cX11_findings 1 = .ok (.i2l, 1) := dz1 (k := 1) (m := 1) dzc2_cX11_findings_0 di_250 (Nat.zero_lt_succ _) rfl
theorem dX11_findings_2 : decode cX11_findings 2 = .ok (.lconst 1, 1) := dz1 (k := 2) (m := 1) dzc2_cX11_findings_0 di_217 (Nat.zero_lt_succ _) rfl
theorem dX11_findings_3 : decode cX11_findings 3 = .ok (.ldc2_w 67, 3) := dz1 (k := 3) (m := 3) dzc2_cX11_findings_0 di_521 (Nat.zero_lt_succ _) rfl
theorem dX11_findings_6 : decode cX11_findings 6 = .ok (.invokestatic 69, 3) := dz1 (k := 6) (m := 3) dzc2_cX11_findings_0 di_522 (Nat.zero_lt_succ _) rfl
theorem dX11_findings_9 : decode cX11_findings 9 = .ok (.ifCond .eq 12, 3) := dz1 (k := 9) (m := 3) dzc2_cX11_findings_0 di_272 (Nat.zero_lt_succ _) rfl
theorem dX11_findings_12 : decode cX11_findings 12 = .ok (.aload_n 0, 1) := dz1 (k := 12) (m := 1) dzc2_cX11_findings_0 di_0 (Nat.zero_lt_succ _) rfl
theorem dX11_findings_13 : decode cX11_findings 13 = .ok (.getfield 48, 3) := dz1 (k := 13) (m := 3) dzc2_cX11_findings_0 di_520 (Nat.zero_lt_succ _) rfl
theorem dX11_findings_16 : decode cX11_findings 16 = .ok (.iload_n 1, 1) := dz1 (k := 16) (m := 1) dzc2_cX11_findings_0 di_11 (Nat.zero_lt_succ _) rfl
theorem dX11_findings_17 : decode cX11_findings 17 = .ok (.iaload, 1) := dz1 (k := 17) (m := 1) dzc2_cX11_findings_0 di_30 (Nat.zero_lt_succ _) rfl
theorem dX11_findings_18 : decode cX11_findings 18 = .ok (.goto 4, 3) := dz1 (k := 18) (m := 3) dzc2_cX11_findings_0 di_49 (Nat.zero_lt_succ _) rfl
theorem dX11_findings_21 : decode cX11_findings 21 = .ok (.iconst (-1), 1) := dz1 (k := 21) (m := 1) dzc2_cX11_findings_0 di_65 (Nat.zero_lt_succ _) rfl
theorem dX11_findings_22 : decode cX11_findings 22 = .ok (.ireturn, 1) := dz1 (k := 22) (m := 1) dzc2_cX11_findings_0 di_13 (Nat.zero_lt_succ _) rfl
set_option maxRecDepth 100000 in
theorem dzc2_cX11_digest_0 : DzLies cX11_digest (.mk ⟨[0x14, 0x00, 0xee, 0x40, 0x03, 0x3e, 0x1d, 0x10, 0x0c, 0xa2, 0x00, 0x16, 0x14, 0x00, 0xf0, 0x1f, 0x69, 0x2a, 0x1d, 0xb6, 0x00, 0xeb, 0x85, 0x61, 0x40, 0x84, 0x03, 0x01, 0xa7, 0xff, 0xea, 0x03]⟩) 0 := dz_lies (m := 32) (Nat.zero_lt_succ _) rfl
theorem dX11_digest_0 : decode cX11_digest 0 = .ok (.ldc2_w 238, 3) := dz1 (k := 0) (m := 3) dzc2_cX11_digest_0 di_710 (Nat.zero_lt_succ _) rfl
theorem dX11_digest_3 : decode cX11_digest 3 = .ok (.lstore_n 1, 1) := dz1 (k := 3) (m := 1) dzc2_cX11_digest_0 di_395 (Nat.zero_lt_succ _) rfl
theorem dX11_digest_4 : decode cX11_digest 4 = .ok (.iconst 0, 1) := dz1 (k := 4) (m := 1) dzc2_cX11_digest_0 di_8 (Nat.zero_lt_succ _) rfl
theorem dX11_digest_5 : decode cX11_digest 5 = .ok (.istore_n 3, 1) := dz1 (k := 5) (m := 1) dzc2_cX11_digest_0 di_50 (Nat.zero_lt_succ _) rfl
theorem dX11_digest_6 : decode cX11_digest 6 = .ok (.iload_n 3, 1) := dz1 (k := 6) (m := 1) dzc2_cX11_digest_0 di_3 (Nat.zero_lt_succ _) rfl
theorem dX11_digest_7 : decode cX11_digest 7 = .ok (.bipush 12, 2) := dz1 (k := 7) (m := 2) dzc2_cX11_digest_0 di_126 (Nat.zero_lt_succ _) rfl
theorem dX11_digest_9 : decode cX11_digest 9 = .ok (.if_icmp .ge 22, 3) := dz1 (k := 9) (m := 3) dzc2_cX11_digest_0 di_536 (Nat.zero_lt_succ _) rfl
theorem dX11_digest_12 : decode cX11_digest 12 = .ok (.ldc2_w 240, 3) := dz1 (k := 12) (m := 3) dzc2_cX11_digest_0 di_711 (Nat.zero_lt_succ _) rfl
theorem dX11_digest_15 : decode cX11_digest 15 = .ok (.lload_n 1, 1) := dz1 (k := 15) (m := 1) dzc2_cX11_digest_0 di_399 (Nat.zero_lt_succ _) rfl
theorem dX11_digest_16 : decode cX11_digest 16 = .ok (.lmul, 1) := dz1 (k := 16) (m := 1) dzc2_cX11_digest_0 di_380 (Nat.zero_lt_succ _) rfl
theorem dX11_digest_17 : decode cX11_digest 17 = .ok (.aload_n 0, 1) := dz1 (k := 17) (m := 1) dzc2_cX11_digest_0 di_0 (Nat.zero_lt_succ _) rfl
theorem dX11_digest_18 : decode cX11_digest 18 = .ok (.iload_n 3, 1) := dz1 (k := 18) (m := 1) dzc2_cX11_digest_0 di_3 (Nat.zero_lt_succ _) rfl
theorem dX11_digest_19 : decode cX11_digest 19 = .ok (.invokevirtual 235, 3) := dz1 (k := 19) (m := 3) dzc2_cX11_digest_0 di_709 (Nat.zero_lt_succ _) rfl
theorem dX11_digest_22 : decode cX11_digest 22 = .ok (.i2l, 1) := dz1 (k := 22) (m := 1) dzc2_cX11_digest_0 di_250 (Nat.zero_lt_succ _) rfl
theorem dX11_digest_23 : decode cX11_digest 23 = .ok (.ladd, 1) := dz1 (k := 23) (m := 1) dzc2_cX11_digest_0 di_251 (Nat.zero_lt_succ _) rfl
theorem dX11_digest_24 : decode cX11_digest 24 = .ok (.lstore_n 1, 1) := dz1 (k := 24) (m := 1) dzc2_cX11_digest_0 di_395 (Nat.zero_lt_succ _) rfl
theorem dX11_digest_25 : decode cX11_digest 25 = .ok (.iinc 3 1, 3) := dz1 (k := 25) (m := 3) dzc2_cX11_digest_0 di_94 (Nat.zero_lt_succ _) rfl
theorem dX11_digest_28 : decode cX11_digest 28 = .ok (.goto (-22), 3) := dz1 (k := 28) (m := 3) dzc2_cX11_digest_0 di_401 (Nat.zero_lt_succ _) rfl
theorem dX11_digest_31 : decode cX11_digest 31 = .ok (.iconst 0, 1) := dz1 (k := 31) (m := 1) dzc2_cX11_digest_0 di_8 (Nat.zero_lt_succ _) rfl
set_option maxRecDepth 100000 in
theorem dzc2_cX11_digest_32 : DzLies cX11_digest (.mk ⟨[0x3e, 0x1d, 0x2a, 0xb4, 0x00, 0x7c, 0xa2, 0x00, 0x4b, 0x03, 0x36, 0x04, 0x15, 0x04, 0x08, 0xa2, 0x00, 0x18, 0x14, 0x00, 0xf0, 0x1f, 0x69, 0x2a, 0x1d, 0x15, 0x04, 0xb6, 0x00, 0x9d, 0x85, 0x61]⟩) 32 := dz_lies (m := 32) (Nat.zero_lt_succ _) rfl
theorem dX11_digest_32 : decode cX11_digest 32 = .ok (.istore_n 3, 1) := dz1 (k := 0) (m := 1) dzc2_cX11_digest_32 di_50 (Nat.zero_lt_succ _) rfl
theorem dX11_digest_33 : decode cX11_digest 33 = .ok (.iload_n 3, 1) := dz1 (k := 1) (m := 1) dzc2_cX11_digest_32 di_3 (Nat.zero_lt_succ _) rfl
theorem dX11_digest_34 : decode cX11_digest 34 = .ok (.aload_n 0, 1) := dz1 (k := 2) (m := 1) dzc2_cX11_digest_32 di_0 (Nat.zero_lt_succ _) rfl
theorem dX11_digest_35 : decode cX11_digest 35 = .ok (.getfield 124, 3) := dz1 (k := 3) (m := 3) dzc2_cX11_digest_32 di_572 (Nat.zero_lt_succ _) rfl
theorem dX11_digest_38 : decode cX11_digest 38 = .ok (.if_icmp .ge 75, 3) := dz1 (k := 6) (m := 3) dzc2_cX11_digest_32 di_402 (Nat.zero_lt_succ _) rfl
theorem dX11_digest_41 : decode cX11_digest 41 = .ok (.iconst 0, 1) := dz1 (k := 9) (m := 1) dzc2_cX11_digest_32 di_8 (Nat.zero_lt_succ _) rfl
theorem dX11_digest_42 : decode cX11_digest 42 = .ok (.istore 4, 2) := dz1 (k := 10) (m := 2) dzc2_cX11_digest_32 di_51 (Nat.zero_lt_succ _) rfl
theorem dX11_digest_44 : decode cX11_digest 44 = .ok (.iload 4, 2) := dz1 (k := 12) (m := 2) dzc2_cX11_digest_32 di_52 (Nat.zero_lt_succ _) rfl
theorem dX11_digest_46 : decode cX11_digest 46 = .ok (.iconst 5, 1) := dz1 (k := 14) (m := 1) dzc2_cX11_digest_32 di_145 (Nat.zero_lt_succ _) rfl
theorem dX11_digest_47 : decode cX11_digest 47 = .ok (.if_icmp .ge 24, 3) := dz1 (k := 15) (m := 3) dzc2_cX11_digest_32 di_248 (Nat.zero_lt_succ _) rfl
theorem dX11_digest_50 : decode cX11_digest 50 = .ok (.ldc2_w 240, 3) := dz1 (k := 18) (m := 3) dzc2_cX11_digest_32 di_711 (Nat.zero_lt_succ _) rfl
theorem dX11_digest_53 : decode cX11_digest 53 = .ok (.lload_n 1, 1) := dz1 (k := 21) (m := 1) dzc2_cX11_digest_32 di_399 (Nat.zero_lt_succ _) rfl
theorem dX11_digest_54 : decode cX11_digest 54 = .ok (.lmul, 1) := dz1 (k := 22) (m := 1) dzc2_cX11_digest_32 di_380 (Nat.zero_lt_succ _) rfl
theorem dX11_digest_55 : decode cX11_digest 55 = .ok (.aload_n 0, 1) := dz1 (k := 23) (m := 1) dzc2_cX11_digest_32 di_0 (Nat.zero_lt_succ _) rfl
theorem dX11_digest_56 : decode cX11_digest 56 = .ok (.iload_n 3, 1) := dz1 (k := 24) (m := 1) dzc2_cX11_digest_32 di_3 (Nat.zero_lt_succ _) rfl
theorem dX11_digest_57 : decode cX11_digest 57 = .ok (.iload 4, 2) := dz1 (k := 25) (m := 2) dzc2_cX11_digest_32 di_52 (Nat.zero_lt_succ _) rfl
theorem dX11_digest_59 : decode cX11_digest 59 = .ok (.invokevirtual 157, 3) := dz1 (k := 27) (m := 3) dzc2_cX11_digest_32 di_602 (Nat.zero_lt_succ _) rfl
theorem dX11_digest_62 : decode cX11_digest 62 = .ok (.i2l, 1) := dz1 (k := 30) (m := 1) dzc2_cX11_digest_32 di_250 (Nat.zero_lt_succ _) rfl
theorem dX11_digest_63 : decode cX11_digest 63 = .ok (.ladd, 1) := dz1 (k := 31) (m := 1) dzc2_cX11_digest_32 di_251 (Nat.zero_lt_succ _) rfl
set_option maxRecDepth 100000 in
theorem dzc2_cX11_digest_64 : DzLies cX11_digest (.mk ⟨[0x40, 0x84, 0x04, 0x01, 0xa7, 0xff, 0xe8, 0x03, 0x36, 0x04, 0x15, 0x04, 0x10, 0x06, 0xa2, 0x00, 0x1d, 0x14, 0x00, 0xf0, 0x1f, 0x69, 0x2a, 0xb4, 0x00, 0x1d, 0x10, 0x06, 0x1d, 0x68, 0x15, 0x04]⟩) 64 := dz_lies (m := 32) (Nat.zero_lt_succ _) rfl
theorem dX11_digest_64 : decode cX11_digest 64 = .ok (.lstore_n 1, 1) := dz1 (k := 0) (m := 1) dzc2_cX11_digest_64 di_395 (Nat.zero_lt_succ _) rfl
theorem dX11_digest_65 : decode cX11_digest 65 = .ok (.iinc 4 1, 3) := dz1 (k := 1) (m := 3) dzc2_cX11_digest_64 di_63 (Nat.zero_lt_succ _) rfl
theorem dX11_digest_68 : decode cX11_digest 68 = .ok (.goto (-24), 3) := dz1 (k := 4) (m := 3) dzc2_cX11_digest_64 di_253 (Nat.zero_lt_succ _) rfl
theorem dX11_digest_71 : decode cX11_digest 71 = .ok (.iconst 0, 1) := dz1 (k := 7) (m := 1) dzc2_cX11_digest_64 di_8 (Nat.zero_lt_succ _) rfl
theorem dX11_digest_72 : decode cX11_digest 72 = .ok (.istore 4, 2) := dz1 (k := 8) (m := 2) dzc2_cX11_digest_64 di_51 (Nat.zero_lt_succ _) rfl
theorem dX11_digest_74 : decode cX11_digest 74 = .ok (.iload 4, 2) := dz1 (k := 10) (m := 2) dzc2_cX11_digest_64 di_52 (Nat.zero_lt_succ _) rfl
theorem dX11_digest_76 : decode cX11_digest 76 = .ok (.bipush 6, 2) := dz1 (k := 12) (m := 2) dzc2_cX11_digest_64 di_86 (Nat.zero_lt_succ _) rfl
theorem dX11_digest_78 : decode cX11_digest 78 = .ok (.if_icmp .ge 29, 3) := dz1 (k := 14) (m := 3) dzc2_cX11_digest_64 di_404 (Nat.zero_lt_succ _) rfl
theorem dX11_digest_81 : decode cX11_digest 81 = .ok (.ldc2_w 240, 3) := dz1 (k := 17) (m := 3) dzc2_cX11_digest_64 di_711 (Nat.zero_lt_succ _) rfl
theorem dX11_digest_84 : decode cX11_digest 84 = .ok (.lload_n 1, 1) := dz1 (k := 20) (m := 1) dzc2_cX11_digest_64 di_399 (Nat.zero_lt_succ _) rfl
theorem dX11_digest_85 : decode cX11_digest 85 = .ok (.lmul, 1) := dz1 (k := 21) (m := 1) dzc2_cX11_digest_64 di_380 (Nat.zero_lt_succ _) rfl
theorem dX11_digest_86 : decode cX11_digest 86 = .ok (.aload_n 0, 1) := dz1 (k := 22) (m := 1) dzc2_cX11_digest_64 di_0 (Nat.zero_lt_succ _) rfl
theorem dX11_digest_87 : decode cX11_digest 87 = .ok (.getfield 29, 3) := dz1 (k := 23) (m := 3) dzc2_cX11_digest_64 di_36 (Nat.zero_lt_succ _) rfl
theorem dX11_digest_90 : decode cX11_digest 90 = .ok (.bipush 6, 2) := dz1 (k := 26) (m := 2) dzc2_cX11_digest_64 di_86 (Nat.zero_lt_succ _) rfl
theorem dX11_digest_92 : decode cX11_digest 92 = .ok (.iload_n 3, 1) := dz1 (k := 28) (m := 1) dzc2_cX11_digest_64 di_3 (Nat.zero_lt_succ _) rfl
theorem dX11_digest_93 : decode cX11_digest 93 = .ok (.imul, 1) := dz1 (k := 29) (m := 1) dzc2_cX11_digest_64 di_113 (Nat.zero_lt_succ _) rfl
theorem dX11_digest_94 : decode cX11_digest 94 = .ok (.iload 4, 2) := dz1 (k := 30) (m := 2) dzc2_cX11_digest_64 di_52 (Nat.zero_lt_succ _) rfl
set_option maxRecDepth 100000 in
theorem dzc2_cX11_digest_96 : DzLies cX11_digest (.mk ⟨[0x60, 0x2e, 0x85, 0x61, 0x40, 0x84, 0x04, 0x01, 0xa7, 0xff, 0xe2, 0x84, 0x03, 0x01, 0xa7, 0xff, 0xb3, 0x03, 0x3e, 0x1d, 0x06, 0xa2, 0x00, 0x17, 0x14, 0x00, 0xf0, 0x1f, 0x69, 0x2a, 0xb4, 0x00, 0x29]⟩) 96 := dz_lies (m := 33) (Nat.zero_lt_succ _) rfl
theorem dX11_digest_96 : decode cX11_digest 96 = .ok (.iadd, 1) := dz1 (k := 0) (m := 1) dzc2_cX11_digest_96 di_24 (Nat.zero_lt_succ _) rfl
theorem dX11_digest_97 : decode cX11_digest 97 = .ok (.iaload, 1) := dz1 (k := 1) (m := 1) dzc2_cX11_digest_96 di_30 (Nat.zero_lt_succ _) rfl
theorem dX11_digest_98 : decode cX11_digest 98 = .ok (.i2l, 1) := dz1 (k := 2) (m := 1) dzc2_cX11_digest_96 di_250 (Nat.zero_lt_succ _) rfl
theorem dX11_digest_99 : decode cX11_digest 99 = .ok (.ladd, 1) := dz1 (k := 3) (m := 1) dzc2_cX11_digest_96 di_251 (Nat.zero_lt_succ _) rfl
theorem dX11_digest_100 : decode cX11_digest 100 = .ok (.lstore_n 1, 1) := dz1 (k := 4) (m := 1) dzc2_cX11_digest_96 di_395 (Nat.zero_lt_succ _) rfl
theorem dX11_digest_101 : decode cX11_digest 101 = .ok (.iinc 4 1, 3) := dz1 (k := 5) (m := 3) dzc2_cX11_digest_96 di_63 (Nat.zero_lt_succ _) rfl
theorem dX11_digest_104 : decode cX11_digest 104 = .ok (.goto (-30), 3) := dz1 (k := 8) (m := 3) dzc2_cX11_digest_96 di_346 (Nat.zero_lt_succ _) rfl
theorem dX11_digest_107 : decode cX11_digest 107 = .ok (.iinc 3 1, 3) := dz1 (k := 11) (m := 3) dzc2_cX11_digest_96 di_94 (Nat.zero_lt_succ _) rfl
theorem dX11_digest_110 : decode cX11_digest 110 = .ok (.goto (-77), 3) := dz1 (k := 14) (m := 3) dzc2_cX11_digest_96 di_712 (Nat.zero_lt_succ _) rfl
theorem dX11_digest_113 : decode cX11_digest 113 = .ok (.iconst 0, 1) := dz1 (k := 17) (m := 1) dzc2_cX11_digest_96 di_8 (Nat.zero_lt_succ _) rfl
theorem dX11_digest_114 : decode cX11_digest 114 = .ok (.istore_n 3, 1) := dz1 (k := 18) (m := 1) dzc2_cX11_digest_96 di_50 (Nat.zero_lt_succ _) rfl
theorem dX11_digest_115 : decode cX11_digest 115 = .ok (.iload_n 3, 1) := dz1 (k := 19) (m := 1) dzc2_cX11_digest_96 di_3 (Nat.zero_lt_succ _) rfl
theorem dX11_digest_116 : decode cX11_digest 116 = .ok (.iconst 3, 1) := dz1 (k := 20) (m := 1) dzc2_cX11_digest_96 di_4 (Nat.zero_lt_succ _) rfl
theorem dX11_digest_117 : decode cX11_digest 117 = .ok (.if_icmp .ge 23, 3) := dz1 (k := 21) (m := 3) dzc2_cX11_digest_96 di_20 (Nat.zero_lt_succ _) rfl
theorem dX11_digest_120 : decode cX11_digest 120 = .ok (.ldc2_w 240, 3) := dz1 (k := 24) (m := 3) dzc2_cX11_digest_96 di_711 (Nat.zero_lt_succ _) rfl
theorem dX11_digest_123 : decode cX11_digest 123 = .ok (.lload_n 1, 1) := dz1 (k := 27) (m := 1) dzc2_cX11_digest_96 di_399 (Nat.zero_lt_succ _) rfl
theorem dX11_digest_124 : decode cX11_digest 124 = .ok (.lmul, 1) := dz1 (k := 28) (m := 1) dzc2_cX11_digest_96 di_380 (Nat.zero_lt_succ _) rfl
theorem dX11_digest_125 : decode cX11_digest 125 = .ok (.aload_n 0, 1) := dz1 (k := 29) (m := 1) dzc2_cX11_digest_96 di_0 (Nat.zero_lt_succ _) rfl
theorem dX11_digest_126 : decode cX11_digest 126 = .ok (.getfield 41, 3) := dz1 (k := 30) (m := 3) dzc2_cX11_digest_96 di_517 (Nat.zero_lt_succ _) rfl
set_option maxRecDepth 100000 in
theorem dzc2_cX11_digest_128 : DzLies cX11_digest (.mk ⟨[0x29, 0x1d, 0x2e, 0x85, 0x61, 0x40, 0x84, 0x03, 0x01, 0xa7, 0xff, 0xea, 0x03, 0x3e, 0x1d, 0x10, 0x06, 0xa2, 0x00, 0x3f, 0x14, 0x00, 0xf0, 0x1f, 0x69, 0x2a, 0xb4, 0x00, 0x07, 0x1d, 0x2e, 0x85]⟩) 128 := dz_lies (m := 32) (Nat.zero_lt_succ _) rfl
theorem dX11_digest_129 : decode cX11_digest 129 = .ok (.iload_n 3, 1) := dz1 (k := 1) (m := 1) dzc2_cX11_digest_128 di_3 (Nat.zero_lt_succ _) rfl
theorem dX11_digest_130 : decode cX11_digest 130 = .ok (.iaload, 1) := dz1 (k := 2) (m := 1) dzc2_cX11_digest_128 di_30 (Nat.zero_lt_succ _) rfl
theorem dX11_digest_131 : decode cX11_digest 131 = .ok (.i2l, 1) := dz1 (k := 3) (m := 1) dzc2_cX11_digest_128 di_250 (Nat.zero_lt_succ _) rfl
theorem dX11_digest_132 : decode cX11_digest 132 = .ok (.ladd, 1) := dz1 (k := 4) (m := 1) dzc2_cX11_digest_128 di_251 (Nat.zero_lt_succ _) rfl
theorem dX11_digest_133 : decode cX11_digest 133 = .ok (.lstore_n 1, 1) := dz1 (k := 5) (m := 1) dzc2_cX11_digest_128 di_395 (Nat.zero_lt_succ _) rfl
theorem dX11_digest_134 : decode cX11_digest 134 = .ok (.iinc 3 1, 3) := dz1 (k := 6) (m := 3) dzc2_cX11_digest_128 di_94 (Nat.zero_lt_succ _) rfl
theorem dX11_digest_137 : decode cX11_digest 137 = .ok (.goto (-22), 3) := dz1 (k := 9) (m := 3) dzc2_cX11_digest_128 di_401 (Nat.zero_lt_succ _) rfl
theorem dX11_digest_140 : decode cX11_digest 140 = .ok (.iconst 0, 1) := dz1 (k := 12) (m := 1) dzc2_cX11_digest_128 di_8 (Nat.zero_lt_succ _) rfl
theorem dX11_digest_141 : decode cX11_digest 141 = .ok (.istore_n 3, 1) := dz1 (k := 13) (m := 1) dzc2_cX11_digest_128 di_50 (Nat.zero_lt_succ _) rfl
theorem dX11_digest_142 : decode cX11_digest 142 = .ok (.iload_n 3, 1) := dz1 (k := 14) (m := 1) dzc2_cX11_digest_128 di_3 (Nat.zero_lt_succ _) rfl
theorem dX11_digest_143 : decode cX11_digest 143 = .ok (.bipush 6, 2) := dz1 (k := 15) (m := 2) dzc2_cX11_digest_128 di_86 (Nat.zero_lt_succ _) rfl
theorem dX11_digest_145 : decode cX11_digest 145 = .ok (.if_icmp .ge 63, 3) := dz1 (k := 17) (m := 3) dzc2_cX11_digest_128 di_713 (Nat.zero_lt_succ _) rfl
theorem dX11_digest_148 : decode cX11_digest 148 = .ok (.ldc2_w 240, 3) := dz1 (k := 20) (m := 3) dzc2_cX11_digest_128 di_711 (Nat.zero_lt_succ _) rfl
theorem dX11_digest_151 : decode cX11_digest 151 = .ok (.lload_n 1, 1) := dz1 (k := 23) (m := 1) dzc2_cX11_digest_128 di_399 (Nat.zero_lt_succ _) rfl
theorem dX11_digest_152 : decode cX11_digest 152 = .ok (.lmul, 1) := dz1 (k := 24) (m := 1) dzc2_cX11_digest_128 di_380 (Nat.zero_lt_succ _) rfl
theorem dX11_digest_153 : decode cX11_digest 153 = .ok (.aload_n 0, 1) := dz1 (k := 25) (m := 1) dzc2_cX11_digest_128 di_0 (Nat.zero_lt_succ _) rfl
theorem dX11_digest_154 : decode cX11_digest 154 = .ok (.getfield 7, 3) := dz1 (k := 26) (m := 3) dzc2_cX11_digest_128 di_514 (Nat.zero_lt_succ _) rfl
theorem dX11_digest_157 : decode cX11_digest 157 = .ok (.iload_n 3, 1) := dz1 (k := 29) (m := 1) dzc2_cX11_digest_128 di_3 (Nat.zero_lt_succ _) rfl
theorem dX11_digest_158 : decode cX11_digest 158 = .ok (.iaload, 1) := dz1 (k := 30) (m := 1) dzc2_cX11_digest_128 di_30 (Nat.zero_lt_succ _) rfl
theorem dX11_digest_159 : decode cX11_digest 159 = .ok (.i2l, 1) := dz1 (k := 31) (m := 1) dzc2_cX11_digest_128 di_250 (Nat.zero_lt_succ _) rfl
set_option maxRecDepth 100000 in
theorem dzc2_cX11_digest_160 : DzLies cX11_digest (.mk ⟨[0x61, 0x40, 0x03, 0x36, 0x04, 0x15, 0x04, 0x2a, 0xb4, 0x00, 0x07, 0x1d, 0x2e, 0xa2, 0x00, 0x1d, 0x14, 0x00, 0xf0, 0x1f, 0x69, 0x2a, 0xb4, 0x00, 0x0d, 0x10, 0x28, 0x1d, 0x68, 0x15, 0x04, 0x60]⟩) 160 := dz_lies (m := 32) (Nat.zero_lt_succ _) rfl
theorem dX11_digest_160 : decode cX11_digest 160 = .ok (.ladd, 1) := dz1 (k := 0) (m := 1) dzc2_cX11_digest_160 di_251 (Nat.zero_lt_succ _) rfl
theorem dX11_digest_161 : decode cX11_digest 161 = .ok (.lstore_n 1, 1) := dz1 (k := 1) (m := 1) dzc2_cX11_digest_160 di_395 (Nat.zero_lt_succ _) rfl
theorem dX11_digest_162 : decode cX11_digest 162 = .ok (.iconst 0, 1) := dz1 (k := 2) (m := 1) dzc2_cX11_digest_160 di_8 (Nat.zero_lt_succ _) rfl
theorem dX11_digest_163 : decode cX11_digest 163 = .ok (.istore 4, 2) := dz1 (k := 3) (m := 2) dzc2_cX11_digest_160 di_51 (Nat.zero_lt_succ _) rfl
theorem dX11_digest_165 : decode cX11_digest 165 = .ok (.iload 4, 2) := dz1 (k := 5) (m := 2) dzc2_cX11_digest_160 di_52 (Nat.zero_lt_succ _) rfl
theorem dX11_digest_167 : decode cX11_digest 167 = .ok (.aload_n 0, 1) := dz1 (k := 7) (m := 1) dzc2_cX11_digest_160 di_0 (Nat.zero_lt_succ _) rfl
theorem dX11_digest_168 : decode cX11_digest 168 = .ok (.getfield 7, 3) := dz1 (k := 8) (m := 3) dzc2_cX11_digest_160 di_514 (Nat.zero_lt_succ _) rfl
theorem dX11_digest_171 : decode cX11_digest 171 = .ok (.iload_n 3, 1) := dz1 (k := 11) (m := 1) dzc2_cX11_digest_160 di_3 (Nat.zero_lt_succ _) rfl
theorem dX11_digest_172 : decode cX11_digest 172 = .ok (.iaload, 1) := dz1 (k := 12) (m := 1) dzc2_cX11_digest_160 di_30 (Nat.zero_lt_succ _) rfl
theorem dX11_digest_173 : decode cX11_digest 173 = .ok (.if_icmp .ge 29, 3) := dz1 (k := 13) (m := 3) dzc2_cX11_digest_160 di_404 (Nat.zero_lt_succ _) rfl
theorem dX11_digest_176 : decode cX11_digest 176 = .ok (.ldc2_w 240, 3) := dz1 (k := 16) (m := 3) dzc2_cX11_digest_160 di_711 (Nat.zero_lt_succ _) rfl
theorem dX11_digest_179 : decode cX11_digest 179 = .ok (.lload_n 1, 1) := dz1 (k := 19) (m := 1) dzc2_cX11_digest_160 di_399 (Nat.zero_lt_succ _) rfl
theorem dX11_digest_180 : decode cX11_digest 180 = .ok (.lmul, 1) := dz1 (k := 20) (m := 1) dzc2_cX11_digest_160 di_380 (Nat.zero_lt_succ _) rfl
theorem dX11_digest_181 : decode cX11_digest 181 = .ok (.aload_n 0, 1) := dz1 (k := 21) (m := 1) dzc2_cX11_digest_160 di_0 (Nat.zero_lt_succ _) rfl
theorem dX11_digest_182 : decode cX11_digest 182 = .ok (.getfield 13, 3) := dz1 (k := 22) (m := 3) dzc2_cX11_digest_160 di_524 (Nat.zero_lt_succ _) rfl
theorem dX11_digest_185 : decode cX11_digest 185 = .ok (.bipush 40, 2) := dz1 (k := 25) (m := 2) dzc2_cX11_digest_160 di_16 (Nat.zero_lt_succ _) rfl
theorem dX11_digest_187 : decode cX11_digest 187 = .ok (.iload_n 3, 1) := dz1 (k := 27) (m := 1) dzc2_cX11_digest_160 di_3 (Nat.zero_lt_succ _) rfl
theorem dX11_digest_188 : decode cX11_digest 188 = .ok (.imul, 1) := dz1 (k := 28) (m := 1) dzc2_cX11_digest_160 di_113 (Nat.zero_lt_succ _) rfl
theorem dX11_digest_189 : decode cX11_digest 189 = .ok (.iload 4, 2) := dz1 (k := 29) (m := 2) dzc2_cX11_digest_160 di_52 (Nat.zero_lt_succ _) rfl
theorem dX11_digest_191 : decode cX11_digest 191 = .ok (.iadd, 1) := dz1 (k := 31) (m := 1) dzc2_cX11_digest_160 di_24 (Nat.zero_lt_succ _) rfl
set_option maxRecDepth 100000 in
theorem dzc2_cX11_digest_192 : DzLies cX11_digest (.mk ⟨[0x2e, 0x85, 0x61, 0x40, 0x84, 0x04, 0x01, 0xa7, 0xff, 0xde, 0x84, 0x03, 0x01, 0xa7, 0xff, 0xc1, 0x03, 0x3e, 0x1d, 0x07, 0xa2, 0x00, 0x3f, 0x14, 0x00, 0xf0, 0x1f, 0x69, 0x2a, 0xb4, 0x00, 0x13]⟩) 192 := dz_lies (m := 32) (Nat.zero_lt_succ _) rfl
theorem dX11_digest_192 : decode cX11_digest 192 = .ok (.iaload, 1) := dz1 (k := 0) (m := 1) dzc2_cX11_digest_192 di_30 (Nat.zero_lt_succ _) rfl
theorem dX11_digest_193 : decode cX11_digest 193 = .ok (.i2l, 1) := dz1 (k := 1) (m := 1) dzc2_cX11_digest_192 di_250 (Nat.zero_lt_succ _) rfl
theorem dX11_digest_194 : decode cX11_digest 194 = .ok (.ladd, 1) := dz1 (k := 2) (m := 1) dzc2_cX11_digest_192 di_251 (Nat.zero_lt_succ _) rfl
theorem dX11_digest_195 : decode cX11_digest 195 = .ok (.lstore_n 1, 1) := dz1 (k := 3) (m := 1) dzc2_cX11_digest_192 di_395 (Nat.zero_lt_succ _) rfl
theorem dX11_digest_196 : decode cX11_digest 196 = .ok (.iinc 4 1, 3) := dz1 (k := 4) (m := 3) dzc2_cX11_digest_192 di_63 (Nat.zero_lt_succ _) rfl
theorem dX11_digest_199 : decode cX11_digest 199 = .ok (.goto (-34), 3) := dz1 (k := 7) (m := 3) dzc2_cX11_digest_192 di_668 (Nat.zero_lt_succ _) rfl
theorem dX11_digest_202 : decode cX11_digest 202 = .ok (.iinc 3 1, 3) := dz1 (k := 10) (m := 3) dzc2_cX11_digest_192 di_94 (Nat.zero_lt_succ _) rfl
theorem dX11_digest_205 : decode cX11_digest 205 = .ok (.goto (-63), 3) := dz1 (k := 13) (m := 3) dzc2_cX11_digest_192 di_714 (Nat.zero_lt_succ _) rfl
theorem dX11_digest_208 : decode cX11_digest 208 = .ok (.iconst 0, 1) := dz1 (k := 16) (m := 1) dzc2_cX11_digest_192 di_8 (Nat.zero_lt_succ _) rfl
theorem dX11_digest_209 : decode cX11_digest 209 = .ok (.istore_n 3, 1) := dz1 (k := 17) (m := 1) dzc2_cX11_digest_192 di_50 (Nat.zero_lt_succ _) rfl
theorem dX11_digest_210 : decode cX11_digest 210 = .ok (.iload_n 3, 1) := dz1 (k := 18) (m := 1) dzc2_cX11_digest_192 di_3 (Nat.zero_lt_succ _) rfl
theorem dX11_digest_211 : decode cX11_digest 211 = .ok (.iconst 4, 1) := dz1 (k := 19) (m := 1) dzc2_cX11_digest_192 di_33 (Nat.zero_lt_succ _) rfl
theorem dX11_digest_212 : decode cX11_digest 212 = .ok (.if_icmp .ge 63, 3) := dz1 (k := 20) (m := 3) dzc2_cX11_digest_192 di_713 (Nat.zero_lt_succ _) rfl
theorem dX11_digest_215 : decode cX11_digest 215 = .ok (.ldc2_w 240, 3) := dz1 (k := 23) (m := 3) dzc2_cX11_digest_192 di_711 (Nat.zero_lt_succ _) rfl
theorem dX11_digest_218 : decode cX11_digest 218 = .ok (.lload_n 1, 1) := dz1 (k := 26) (m := 1) dzc2_cX11_digest_192 di_399 (Nat.zero_lt_succ _) rfl
theorem dX11_digest_219 : decode cX11_digest 219 = .ok (.lmul, 1) := dz1 (k := 27) (m := 1) dzc2_cX11_digest_192 di_380 (Nat.zero_lt_succ _) rfl
theorem dX11_digest_220 : decode cX11_digest 220 = .ok (.aload_n 0, 1) := dz1 (k := 28) (m := 1) dzc2_cX11_digest_192 di_0 (Nat.zero_lt_succ _) rfl
theorem dX11_digest_221 : decode cX11_digest 221 = .ok (.getfield 19, 3) := dz1 (k := 29) (m := 3) dzc2_cX11_digest_192 di_515 (Nat.zero_lt_succ _) rfl
set_option maxRecDepth 100000 in
theorem dzc2_cX11_digest_224 : DzLies cX11_digest (.mk ⟨[0x1d, 0x2e, 0x85, 0x61, 0x40, 0x03, 0x36, 0x04, 0x15, 0x04, 0x2a, 0xb4, 0x00, 0x13, 0x1d, 0x2e, 0xa2, 0x00, 0x1d, 0x14, 0x00, 0xf0, 0x1f, 0x69, 0x2a, 0xb4, 0x00, 0x16, 0x10, 0x3c, 0x1d, 0x68]⟩) 224 := dz_lies (m := 32) (Nat.zero_lt_succ _) rfl
theorem dX11_digest_224 : decode cX11_digest 224 = .ok (.iload_n 3, 1) := dz1 (k := 0) (m := 1) dzc2_cX11_digest_224 di_3 (Nat.zero_lt_succ _) rfl
theorem dX11_digest_225 : decode cX11_digest 225 = .ok (.iaload, 1) := dz1 (k := 1) (m := 1) dzc2_cX11_digest_224 di_30 (Nat.zero_lt_succ _) rfl
theorem dX11_digest_226 : decode cX11_digest 226 = .ok (.i2l, 1) := dz1 (k := 2) (m := 1) dzc2_cX11_digest_224 di_250 (Nat.zero_lt_succ _) rfl
theorem dX11_digest_227 : decode cX11_digest 227 = .ok (.ladd, 1) := dz1 (k := 3) (m := 1) dzc2_cX11_digest_224 di_251 (Nat.zero_lt_succ _) rfl
theorem dX11_digest_228 : decode cX11_digest 228 = .ok (.lstore_n 1, 1) := dz1 (k := 4) (m := 1) dzc2_cX11_digest_224 di_395 (Nat.zero_lt_succ _) rfl
theorem dX11_digest_229 : decode cX11_digest 229 = .ok (.iconst 0, 1) := dz1 (k := 5) (m := 1) dzc2_cX11_digest_224 di_8 (Nat.zero_lt_succ _) rfl
theorem dX11_digest_230 : decode cX11_digest 230 = .ok (.istore 4, 2) := dz1 (k := 6) (m := 2) dzc2_cX11_digest_224 di_51 (Nat.zero_lt_succ _) rfl
theorem dX11_digest_232 : decode cX11_digest 232 = .ok (.iload 4, 2) := dz1 (k := 8) (m := 2) dzc2_cX11_digest_224 di_52 (Nat.zero_lt_succ _) rfl
theorem dX11_digest_234 : decode cX11_digest 234 = .ok (.aload_n 0, 1) := dz1 (k := 10) (m := 1) dzc2_cX11_digest_224 di_0 (Nat.zero_lt_succ _) rfl
theorem dX11_digest_235 : decode cX11_digest 235 = .ok (.getfield 19, 3) := dz1 (k := 11) (m := 3) dzc2_cX11_digest_224 di_515 (Nat.zero_lt_succ _) rfl
theorem dX11_digest_238 : decode cX11_digest 238 = .ok (.iload_n 3, 1) := dz1 (k := 14) (m := 1) dzc2_cX11_digest_224 di_3 (Nat.zero_lt_succ _) rfl
theorem dX11_digest_239 : decode cX11_digest 239 = .ok (.iaload, 1) := dz1 (k := 15) (m := 1) dzc2_cX11_digest_224 di_30 (Nat.zero_lt_succ _) rfl
theorem dX11_digest_240 : decode cX11_digest 240 = .ok (.if_icmp .ge 29, 3) := dz1 (k := 16) (m := 3) dzc2_cX11_digest_224 di_404 (Nat.zero_lt_succ _) rfl
theorem dX11_digest_243 : decode cX11_digest 243 = .ok (.ldc2_w 240, 3) := dz1 (k := 19) (m := 3) dzc2_cX11_digest_224 di_711 (Nat.zero_lt_succ _) rfl
theorem dX11_digest_246 : decode cX11_digest 246 = .ok (.lload_n 1, 1) := dz1 (k := 22) (m := 1) dzc2_cX11_digest_224 di_399 (Nat.zero_lt_succ _) rfl
theorem dX11_digest_247 : decode cX11_digest 247 = .ok (.lmul, 1) := dz1 (k := 23) (m := 1) dzc2_cX11_digest_224 di_380 (Nat.zero_lt_succ _) rfl
theorem dX11_digest_248 : decode cX11_digest 248 = .ok (.aload_n 0, 1) := dz1 (k := 24) (m := 1) dzc2_cX11_digest_224 di_0 (Nat.zero_lt_succ _) rfl
theorem dX11_digest_249 : decode cX11_digest 249 = .ok (.getfield 22, 3) := dz1 (k := 25) (m := 3) dzc2_cX11_digest_224 di_537 (Nat.zero_lt_succ _) rfl
theorem dX11_digest_252 : decode cX11_digest 252 = .ok (.bipush 60, 2) := dz1 (k := 28) (m := 2) dzc2_cX11_digest_224 di_195 (Nat.zero_lt_succ _) rfl
theorem dX11_digest_254 : decode cX11_digest 254 = .ok (.iload_n 3, 1) := dz1 (k := 30) (m := 1) dzc2_cX11_digest_224 di_3 (Nat.zero_lt_succ _) rfl
theorem dX11_digest_255 : decode cX11_digest 255 = .ok (.imul, 1) := dz1 (k := 31) (m := 1) dzc2_cX11_digest_224 di_113 (Nat.zero_lt_succ _) rfl
set_option maxRecDepth 100000 in
theorem dzc2_cX11_digest_256 : DzLies cX11_digest (.mk ⟨[0x15, 0x04, 0x60, 0x33, 0x85, 0x61, 0x40, 0x84, 0x04, 0x01, 0xa7, 0xff, 0xde, 0x84, 0x03, 0x01, 0xa7, 0xff, 0xc2, 0x1f, 0xad]⟩) 256 := dz_lies (m := 21) (Nat.zero_lt_succ _) rfl
theorem dX11_digest_256 : decode cX11_digest 256 = .ok (.iload 4, 2) := dz1 (k := 0) (m := 2) dzc2_cX11_digest_256 di_52 (Nat.zero_lt_succ _) rfl
theorem dX11_digest_258 : decode cX11_digest 258 = .ok (.iadd, 1) := dz1 (k := 2) (m := 1) dzc2_cX11_digest_256 di_24 (Nat.zero_lt_succ _) rfl
theorem dX11_digest_259 : decode cX11_digest 259 = .ok (.baload, 1) := dz1 (k := 3) (m := 1) dzc2_cX11_digest_256 di_91 (Nat.zero_lt_succ _) rfl
theorem dX11_digest_260 : decode cX11_digest 260 = .ok (.i2l, 1) := dz1 (k := 4) (m := 1) dzc2_cX11_digest_256 di_250 (Nat.zero_lt_succ _) rfl
theorem dX11_digest_261 : decode cX11_digest 261 = .ok (.ladd, 1) := dz1 (k := 5) (m := 1) dzc2_cX11_digest_256 di_251 (Nat.zero_lt_succ _) rfl
theorem dX11_digest_262 : decode cX11_digest 262 = .ok (.lstore_n 1, 1) := dz1 (k := 6) (m := 1) dzc2_cX11_digest_256 di_395 (Nat.zero_lt_succ _) rfl
theorem dX11_digest_263 : decode cX11_digest 263 = .ok (.iinc 4 1, 3) := dz1 (k := 7) (m := 3) dzc2_cX11_digest_256 di_63 (Nat.zero_lt_succ _) rfl
theorem dX11_digest_266 : decode cX11_digest 266 = .ok (.goto (-34), 3) := dz1 (k := 10) (m := 3) dzc2_cX11_digest_256 di_668 (Nat.zero_lt_succ _) rfl
theorem dX11_digest_269 : decode cX11_digest 269 = .ok (.iinc 3 1, 3) := dz1 (k := 13) (m := 3) dzc2_cX11_digest_256 di_94 (Nat.zero_lt_succ _) rfl
theorem dX11_digest_272 : decode cX11_digest 272 = .ok (.goto (-62), 3) := dz1 (k := 16) (m := 3) dzc2_cX11_digest_256 di_715 (Nat.zero_lt_succ _) rfl
theorem dX11_digest_275 : decode cX11_digest 275 = .ok (.lload_n 1, 1) := dz1 (k := 19) (m := 1) dzc2_cX11_digest_256 di_399 (Nat.zero_lt_succ _) rfl
theorem dX11_digest_276 : decode cX11_digest 276 = .ok (.lreturn, 1) := dz1 (k := 20) (m := 1) dzc2_cX11_digest_256 di_385 (Nat.zero_lt_succ _) rfl
