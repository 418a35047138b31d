set_option maxRecDepth 100000 in
theorem dza0_cX0_init_0 : DzLies cX0_init (.mk ⟨[0x2a, 0xb7, 0x00, 0x01, 0xb1]⟩) 0 := dz_lies (m := 5) (Nat.zero_lt_succ _) rfl
theorem dX0_init_0 : decode cX0_init 0 = .ok (.aload_n 0, 1) := dz1 (k := 0) (m := 1) dza0_cX0_init_0 di_0 (Nat.zero_lt_succ _) rfl
theorem dX0_init_1 : decode cX0_init 1 = .ok (.invokespecial 1, 3) := dz1 (k := 1) (m := 3) dza0_cX0_init_0 di_1 (Nat.zero_lt_succ _) rfl
theorem dX0_init_4 : decode cX0_init 4 = .ok (.return_, 1) := dz1 (k := 4) (m := 1) dza0_cX0_init_0 di_2 (Nat.zero_lt_succ _) rfl
set_option maxRecDepth 100000 in
theorem dza0_cX0_heard_0 : DzLies cX0_heard (.mk ⟨[0x1d, 0x06, 0x70, 0x05, 0xa0, 0x00, 0x07, 0x03, 0xa7, 0x00, 0x06, 0x04, 0x1b, 0x78, 0xac]⟩) 0 := dz_lies (m := 15) (Nat.zero_lt_succ _) rfl
theorem dX0_heard_0 : decode cX0_heard 0 = .ok (.iload_n 3, 1) := dz1 (k := 0) (m := 1) dza0_cX0_heard_0 di_3 (Nat.zero_lt_succ _) rfl
theorem dX0_heard_1 : decode cX0_heard 1 = .ok (.iconst 3, 1) := dz1 (k := 1) (m := 1) dza0_cX0_heard_0 di_4 (Nat.zero_lt_succ _) rfl
theorem dX0_heard_2 : decode cX0_heard 2 = .ok (.irem, 1) := dz1 (k := 2) (m := 1) dza0_cX0_heard_0 di_5 (Nat.zero_lt_succ _) rfl
theorem dX0_heard_3 : decode cX0_heard 3 = .ok (.iconst 2, 1) := dz1 (k := 3) (m := 1) dza0_cX0_heard_0 di_6 (Nat.zero_lt_succ _) rfl
theorem dX0_heard_4 : decode cX0_heard 4 = .ok (.if_icmp .ne 7, 3) := dz1 (k := 4) (m := 3) dza0_cX0_heard_0 di_7 (Nat.zero_lt_succ _) rfl
theorem dX0_heard_7 : decode cX0_heard 7 = .ok (.iconst 0, 1) := dz1 (k := 7) (m := 1) dza0_cX0_heard_0 di_8 (Nat.zero_lt_succ _) rfl
theorem dX0_heard_8 : decode cX0_heard 8 = .ok (.goto 6, 3) := dz1 (k := 8) (m := 3) dza0_cX0_heard_0 di_9 (Nat.zero_lt_succ _) rfl
theorem dX0_heard_11 : decode cX0_heard 11 = .ok (.iconst 1, 1) := dz1 (k := 11) (m := 1) dza0_cX0_heard_0 di_10 (Nat.zero_lt_succ _) rfl
theorem dX0_heard_12 : decode cX0_heard 12 = .ok (.iload_n 1, 1) := dz1 (k := 12) (m := 1) dza0_cX0_heard_0 di_11 (Nat.zero_lt_succ _) rfl
theorem dX0_heard_13 : decode cX0_heard 13 = .ok (.ishl, 1) := dz1 (k := 13) (m := 1) dza0_cX0_heard_0 di_12 (Nat.zero_lt_succ _) rfl
theorem dX0_heard_14 : decode cX0_heard 14 = .ok (.ireturn, 1) := dz1 (k := 14) (m := 1) dza0_cX0_heard_0 di_13 (Nat.zero_lt_succ _) rfl
set_option maxRecDepth 100000 in
theorem dza0_cX0_callsTillDeaf_0 : DzLies cX0_callsTillDeaf (.mk ⟨[0x05, 0x1b, 0x06, 0x70, 0x64, 0xac]⟩) 0 := dz_lies (m := 6) (Nat.zero_lt_succ _) rfl
theorem dX0_callsTillDeaf_0 : decode cX0_callsTillDeaf 0 = .ok (.iconst 2, 1) := dz1 (k := 0) (m := 1) dza0_cX0_callsTillDeaf_0 di_6 (Nat.zero_lt_succ _) rfl
theorem dX0_callsTillDeaf_1 : decode cX0_callsTillDeaf 1 = .ok (.iload_n 1, 1) := dz1 (k := 1) (m := 1) dza0_cX0_callsTillDeaf_0 di_11 (Nat.zero_lt_succ _) rfl
theorem dX0_callsTillDeaf_2 : decode cX0_callsTillDeaf 2 = .ok (.iconst 3, 1) := dz1 (k := 2) (m := 1) dza0_cX0_callsTillDeaf_0 di_4 (Nat.zero_lt_succ _) rfl
theorem dX0_callsTillDeaf_3 : decode cX0_callsTillDeaf 3 = .ok (.irem, 1) := dz1 (k := 3) (m := 1) dza0_cX0_callsTillDeaf_0 di_5 (Nat.zero_lt_succ _) rfl
theorem dX0_callsTillDeaf_4 : decode cX0_callsTillDeaf 4 = .ok (.isub, 1) := dz1 (k := 4) (m := 1) dza0_cX0_callsTillDeaf_0 di_14 (Nat.zero_lt_succ _) rfl
theorem dX0_callsTillDeaf_5 : decode cX0_callsTillDeaf 5 = .ok (.ireturn, 1) := dz1 (k := 5) (m := 1) dza0_cX0_callsTillDeaf_0 di_13 (Nat.zero_lt_succ _) rfl
set_option maxRecDepth 100000 in
theorem dza0_cX1_init_0 : DzLies cX1_init (.mk ⟨[0x2a, 0xb7, 0x00, 0x03, 0x2a, 0x10, 0x28, 0xbc, 0x0a, 0xb5, 0x00, 0x09, 0xb1]⟩) 0 := dz_lies (m := 13) (Nat.zero_lt_succ _) rfl
theorem dX1_init_0 : decode cX1_init 0 = .ok (.aload_n 0, 1) := dz1 (k := 0) (m := 1) dza0_cX1_init_0 di_0 (Nat.zero_lt_succ _) rfl
theorem dX1_init_1 : decode cX1_init 1 = .ok (.invokespecial 3, 3) := dz1 (k := 1) (m := 3) dza0_cX1_init_0 di_15 (Nat.zero_lt_succ _) rfl
theorem dX1_init_4 : decode cX1_init 4 = .ok (.aload_n 0, 1) := dz1 (k := 4) (m := 1) dza0_cX1_init_0 di_0 (Nat.zero_lt_succ _) rfl
theorem dX1_init_5 : decode cX1_init 5 = .ok (.bipush 40, 2) := dz1 (k := 5) (m := 2) dza0_cX1_init_0 di_16 (Nat.zero_lt_succ _) rfl
theorem dX1_init_7 : decode cX1_init 7 = .ok (.newarray .int, 2) := dz1 (k := 7) (m := 2) dza0_cX1_init_0 di_17 (Nat.zero_lt_succ _) rfl
theorem dX1_init_9 : decode cX1_init 9 = .ok (.putfield 9, 3) := dz1 (k := 9) (m := 3) dza0_cX1_init_0 di_18 (Nat.zero_lt_succ _) rfl
theorem dX1_init_12 : decode cX1_init 12 = .ok (.return_, 1) := dz1 (k := 12) (m := 1) dza0_cX1_init_0 di_2 (Nat.zero_lt_succ _) rfl
set_option maxRecDepth 100000 in
theorem dza0_cX1_add_0 : DzLies cX1_add (.mk ⟨[0x2a, 0xb4, 0x00, 0x0f, 0x10, 0x28, 0xa2, 0x00, 0x17, 0x2a, 0xb4, 0x00, 0x09, 0x2a, 0xb4, 0x00, 0x0f, 0x1b, 0x4f, 0x2a, 0x59, 0xb4, 0x00, 0x0f, 0x04, 0x60, 0xb5, 0x00, 0x0f, 0xb1]⟩) 0 := dz_lies (m := 30) (Nat.zero_lt_succ _) rfl
theorem dX1_add_0 : decode cX1_add 0 = .ok (.aload_n 0, 1) := dz1 (k := 0) (m := 1) dza0_cX1_add_0 di_0 (Nat.zero_lt_succ _) rfl
theorem dX1_add_1 : decode cX1_add 1 = .ok (.getfield 15, 3) := dz1 (k := 1) (m := 3) dza0_cX1_add_0 di_19 (Nat.zero_lt_succ _) rfl
theorem dX1_add_4 : decode cX1_add 4 = .ok (.bipush 40, 2) := dz1 (k := 4) (m := 2) dza0_cX1_add_0 di_16 (Nat.zero_lt_succ _) rfl
theorem dX1_add_6 : decode cX1_add 6 = .ok (.if_icmp .ge 23, 3) := dz1 (k := 6) (m := 3) dza0_cX1_add_0 di_20 (Nat.zero_lt_succ _) rfl
theorem dX1_add_9 : decode cX1_add 9 = .ok (.aload_n 0, 1) := dz1 (k := 9) (m := 1) dza0_cX1_add_0 di_0 (Nat.zero_lt_succ _) rfl
theorem dX1_add_10 : decode cX1_add 10 = .ok (.getfield 9, 3) := dz1 (k := 10) (m := 3) dza0_cX1_add_0 di_21 (Nat.zero_lt_succ _) rfl
theorem dX1_add_13 : decode cX1_add 13 = .ok (.aload_n 0, 1) := dz1 (k := 13) (m := 1) dza0_cX1_add_0 di_0 (Nat.zero_lt_succ _) rfl
theorem dX1_add_14 : decode cX1_add 14 = .ok (.getfield 15, 3) := dz1 (k := 14) (m := 3) dza0_cX1_add_0 di_19 (Nat.zero_lt_succ _) rfl
theorem dX1_add_17 : decode cX1_add 17 = .ok (.iload_n 1, 1) := dz1 (k := 17) (m := 1) dza0_cX1_add_0 di_11 (Nat.zero_lt_succ _) rfl
theorem dX1_add_18 : decode cX1_add 18 = .ok (.iastore, 1) := dz1 (k := 18) (m := 1) dza0_cX1_add_0 di_22 (Nat.zero_lt_succ _) rfl
theorem dX1_add_19 : decode cX1_add 19 = .ok (.aload_n 0, 1) := dz1 (k := 19) (m := 1) dza0_cX1_add_0 di_0 (Nat.zero_lt_succ _) rfl
theorem dX1_add_20 : decode cX1_add 20 = .ok (.dup, 1) := dz1 (k := 20) (m := 1) dza0_cX1_add_0 di_23 (Nat.zero_lt_succ _) rfl
theorem dX1_add_21 : decode cX1_add 21 = .ok (.getfield 15, 3) := dz1 (k := 21) (m := 3) dza0_cX1_add_0 di_19 (Nat.zero_lt_succ _) rfl
theorem dX1_add_24 : decode cX1_add 24 = .ok (.iconst 1, 1) := dz1 (k := 24) (m := 1) dza0_cX1_add_0 di_10 (Nat.zero_lt_succ _) rfl
theorem dX1_add_25 : decode cX1_add 25 = .ok (.iadd, 1) := dz1 (k := 25) (m := 1) dza0_cX1_add_0 di_24 (Nat.zero_lt_succ _) rfl
theorem dX1_add_26 : decode cX1_add 26 = .ok (.putfield 15, 3) := dz1 (k := 26) (m := 3) dza0_cX1_add_0 di_25 (Nat.zero_lt_succ _) rfl
theorem dX1_add_29 : decode cX1_add 29 = .ok (.return_, 1) := dz1 (k := 29) (m := 1) dza0_cX1_add_0 di_2 (Nat.zero_lt_succ _) rfl
set_option maxRecDepth 100000 in
theorem dza0_cX1_take_0 : DzLies cX1_take (.mk ⟨[0x2a, 0x2b, 0xb4, 0x00, 0x0f, 0xb5, 0x00, 0x0f, 0x03, 0x3d, 0x1c, 0x2a, 0xb4, 0x00, 0x0f, 0xa2, 0x00, 0x15, 0x2a, 0xb4, 0x00, 0x09, 0x1c, 0x2b, 0xb4, 0x00, 0x09, 0x1c, 0x2e, 0x4f, 0x84, 0x02, 0x01]⟩) 0 := dz_lies (m := 33) (Nat.zero_lt_succ _) rfl
theorem dX1_take_0 : decode cX1_take 0 = .ok (.aload_n 0, 1) := dz1 (k := 0) (m := 1) dza0_cX1_take_0 di_0 (Nat.zero_lt_succ _) rfl
theorem dX1_take_1 : decode cX1_take 1 = .ok (.aload_n 1, 1) := dz1 (k := 1) (m := 1) dza0_cX1_take_0 di_26 (Nat.zero_lt_succ _) rfl
theorem dX1_take_2 : decode cX1_take 2 = .ok (.getfield 15, 3) := dz1 (k := 2) (m := 3) dza0_cX1_take_0 di_19 (Nat.zero_lt_succ _) rfl
theorem dX1_take_5 : decode cX1_take 5 = .ok (.putfield 15, 3) := dz1 (k := 5) (m := 3) dza0_cX1_take_0 di_25 (Nat.zero_lt_succ _) rfl
theorem dX1_take_8 : decode cX1_take 8 = .ok (.iconst 0, 1) := dz1 (k := 8) (m := 1) dza0_cX1_take_0 di_8 (Nat.zero_lt_succ _) rfl
theorem dX1_take_9 : decode cX1_take 9 = .ok (.istore_n 2, 1) := dz1 (k := 9) (m := 1) dza0_cX1_take_0 di_27 (Nat.zero_lt_succ _) rfl
theorem dX1_take_10 : decode cX1_take 10 = .ok (.iload_n 2, 1) := dz1 (k := 10) (m := 1) dza0_cX1_take_0 di_28 (Nat.zero_lt_succ _) rfl
theorem dX1_take_11 : decode cX1_take 11 = .ok (.aload_n 0, 1) := dz1 (k := 11) (m := 1) dza0_cX1_take_0 di_0 (Nat.zero_lt_succ _) rfl
theorem dX1_take_12 : decode cX1_take 12 = .ok (.getfield 15, 3) := dz1 (k := 12) (m := 3) dza0_cX1_take_0 di_19 (Nat.zero_lt_succ _) rfl
theorem dX1_take_15 : decode cX1_take 15 = .ok (.if_icmp .ge 21, 3) := dz1 (k := 15) (m := 3) dza0_cX1_take_0 di_29 (Nat.zero_lt_succ _) rfl
theorem dX1_take_18 : decode cX1_take 18 = .ok (.aload_n 0, 1) := dz1 (k := 18) (m := 1) dza0_cX1_take_0 di_0 (Nat.zero_lt_succ _) rfl
theorem dX1_take_19 : decode cX1_take 19 = .ok (.getfield 9, 3) := dz1 (k := 19) (m := 3) dza0_cX1_take_0 di_21 (Nat.zero_lt_succ _) rfl
theorem dX1_take_22 : decode cX1_take 22 = .ok (.iload_n 2, 1) := dz1 (k := 22) (m := 1) dza0_cX1_take_0 di_28 (Nat.zero_lt_succ _) rfl
theorem dX1_take_23 : decode cX1_take 23 = .ok (.aload_n 1, 1) := dz1 (k := 23) (m := 1) dza0_cX1_take_0 di_26 (Nat.zero_lt_succ _) rfl
theorem dX1_take_24 : decode cX1_take 24 = .ok (.getfield 9, 3) := dz1 (k := 24) (m := 3) dza0_cX1_take_0 di_21 (Nat.zero_lt_succ _) rfl
theorem dX1_take_27 : decode cX1_take 27 = .ok (.iload_n 2, 1) := dz1 (k := 27) (m := 1) dza0_cX1_take_0 di_28 (Nat.zero_lt_succ _) rfl
theorem dX1_take_28 : decode cX1_take 28 = .ok (.iaload, 1) := dz1 (k := 28) (m := 1) dza0_cX1_take_0 di_30 (Nat.zero_lt_succ _) rfl
theorem dX1_take_29 : decode cX1_take 29 = .ok (.iastore, 1) := dz1 (k := 29) (m := 1) dza0_cX1_take_0 di_22 (Nat.zero_lt_succ _) rfl
theorem dX1_take_30 : decode cX1_take 30 = .ok (.iinc 2 1, 3) := dz1 (k := 30) (m := 3) dza0_cX1_take_0 di_31 (Nat.zero_lt_succ _) rfl
set_option maxRecDepth 100000 in
theorem dza0_cX1_take_32 : DzLies cX1_take (.mk ⟨[0x01, 0xa7, 0xff, 0xe9, 0xb1]⟩) 32 := dz_lies (m := 5) (Nat.zero_lt_succ _) rfl
theorem dX1_take_33 : decode cX1_take 33 = .ok (.goto (-23), 3) := dz1 (k := 1) (m := 3) dza0_cX1_take_32 di_32 (Nat.zero_lt_succ _) rfl
theorem dX1_take_36 : decode cX1_take 36 = .ok (.return_, 1) := dz1 (k := 4) (m := 1) dza0_cX1_take_32 di_2 (Nat.zero_lt_succ _) rfl
set_option maxRecDepth 100000 in
theorem dza0_cX2_init_0 : DzLies cX2_init (.mk ⟨[0x2a, 0xb7, 0x00, 0x03, 0x2a, 0x07, 0xbc, 0x0a, 0xb5, 0x00, 0x09, 0x2a, 0x2b, 0xb5, 0x00, 0x0f, 0xb1]⟩) 0 := dz_lies (m := 17) (Nat.zero_lt_succ _) rfl
theorem dX2_init_0 : decode cX2_init 0 = .ok (.aload_n 0, 1) := dz1 (k := 0) (m := 1) dza0_cX2_init_0 di_0 (Nat.zero_lt_succ _) rfl
theorem dX2_init_1 : decode cX2_init 1 = .ok (.invokespecial 3, 3) := dz1 (k := 1) (m := 3) dza0_cX2_init_0 di_15 (Nat.zero_lt_succ _) rfl
theorem dX2_init_4 : decode cX2_init 4 = .ok (.aload_n 0, 1) := dz1 (k := 4) (m := 1) dza0_cX2_init_0 di_0 (Nat.zero_lt_succ _) rfl
theorem dX2_init_5 : decode cX2_init 5 = .ok (.iconst 4, 1) := dz1 (k := 5) (m := 1) dza0_cX2_init_0 di_33 (Nat.zero_lt_succ _) rfl
theorem dX2_init_6 : decode cX2_init 6 = .ok (.newarray .int, 2) := dz1 (k := 6) (m := 2) dza0_cX2_init_0 di_17 (Nat.zero_lt_succ _) rfl
theorem dX2_init_8 : decode cX2_init 8 = .ok (.putfield 9, 3) := dz1 (k := 8) (m := 3) dza0_cX2_init_0 di_18 (Nat.zero_lt_succ _) rfl
theorem dX2_init_11 : decode cX2_init 11 = .ok (.aload_n 0, 1) := dz1 (k := 11) (m := 1) dza0_cX2_init_0 di_0 (Nat.zero_lt_succ _) rfl
theorem dX2_init_12 : decode cX2_init 12 = .ok (.aload_n 1, 1) := dz1 (k := 12) (m := 1) dza0_cX2_init_0 di_26 (Nat.zero_lt_succ _) rfl
theorem dX2_init_13 : decode cX2_init 13 = .ok (.putfield 15, 3) := dz1 (k := 13) (m := 3) dza0_cX2_init_0 di_25 (Nat.zero_lt_succ _) rfl
theorem dX2_init_16 : decode cX2_init 16 = .ok (.return_, 1) := dz1 (k := 16) (m := 1) dza0_cX2_init_0 di_2 (Nat.zero_lt_succ _) rfl
set_option maxRecDepth 100000 in
theorem dza0_cX2_begin_0 : DzLies cX2_begin (.mk ⟨[0x2a, 0xb4, 0x00, 0x09, 0x03, 0xb8, 0x00, 0x13, 0x2a, 0x03, 0xb5, 0x00, 0x19, 0x2a, 0x2a, 0xb4, 0x00, 0x0f, 0xb4, 0x00, 0x1d, 0x9a, 0x00, 0x07, 0x03, 0xa7, 0x00, 0x06, 0x11, 0x1f, 0xfe, 0xb5, 0x00, 0x22]⟩) 0 := dz_lies (m := 34) (Nat.zero_lt_succ _) rfl
theorem dX2_begin_0 : decode cX2_begin 0 = .ok (.aload_n 0, 1) := dz1 (k := 0) (m := 1) dza0_cX2_begin_0 di_0 (Nat.zero_lt_succ _) rfl
theorem dX2_begin_1 : decode cX2_begin 1 = .ok (.getfield 9, 3) := dz1 (k := 1) (m := 3) dza0_cX2_begin_0 di_21 (Nat.zero_lt_succ _) rfl
theorem dX2_begin_4 : decode cX2_begin 4 = .ok (.iconst 0, 1) := dz1 (k := 4) (m := 1) dza0_cX2_begin_0 di_8 (Nat.zero_lt_succ _) rfl
theorem dX2_begin_5 : decode cX2_begin 5 = .ok (.invokestatic 19, 3) := dz1 (k := 5) (m := 3) dza0_cX2_begin_0 di_34 (Nat.zero_lt_succ _) rfl
theorem dX2_begin_8 : decode cX2_begin 8 = .ok (.aload_n 0, 1) := dz1 (k := 8) (m := 1) dza0_cX2_begin_0 di_0 (Nat.zero_lt_succ _) rfl
theorem dX2_begin_9 : decode cX2_begin 9 = .ok (.iconst 0, 1) := dz1 (k := 9) (m := 1) dza0_cX2_begin_0 di_8 (Nat.zero_lt_succ _) rfl
theorem dX2_begin_10 : decode cX2_begin 10 = .ok (.putfield 25, 3) := dz1 (k := 10) (m := 3) dza0_cX2_begin_0 di_35 (Nat.zero_lt_succ _) rfl
theorem dX2_begin_13 : decode cX2_begin 13 = .ok (.aload_n 0, 1) := dz1 (k := 13) (m := 1) dza0_cX2_begin_0 di_0 (Nat.zero_lt_succ _) rfl
theorem dX2_begin_14 : decode cX2_begin 14 = .ok (.aload_n 0, 1) := dz1 (k := 14) (m := 1) dza0_cX2_begin_0 di_0 (Nat.zero_lt_succ _) rfl
theorem dX2_begin_15 : decode cX2_begin 15 = .ok (.getfield 15, 3) := dz1 (k := 15) (m := 3) dza0_cX2_begin_0 di_19 (Nat.zero_lt_succ _) rfl
theorem dX2_begin_18 : decode cX2_begin 18 = .ok (.getfield 29, 3) := dz1 (k := 18) (m := 3) dza0_cX2_begin_0 di_36 (Nat.zero_lt_succ _) rfl
theorem dX2_begin_21 : decode cX2_begin 21 = .ok (.ifCond .ne 7, 3) := dz1 (k := 21) (m := 3) dza0_cX2_begin_0 di_37 (Nat.zero_lt_succ _) rfl
theorem dX2_begin_24 : decode cX2_begin 24 = .ok (.iconst 0, 1) := dz1 (k := 24) (m := 1) dza0_cX2_begin_0 di_8 (Nat.zero_lt_succ _) rfl
theorem dX2_begin_25 : decode cX2_begin 25 = .ok (.goto 6, 3) := dz1 (k := 25) (m := 3) dza0_cX2_begin_0 di_9 (Nat.zero_lt_succ _) rfl
theorem dX2_begin_28 : decode cX2_begin 28 = .ok (.sipush 8190, 3) := dz1 (k := 28) (m := 3) dza0_cX2_begin_0 di_38 (Nat.zero_lt_succ _) rfl
theorem dX2_begin_31 : decode cX2_begin 31 = .ok (.putfield 34, 3) := dz1 (k := 31) (m := 3) dza0_cX2_begin_0 di_39 (Nat.zero_lt_succ _) rfl
set_option maxRecDepth 100000 in
theorem dza0_cX2_begin_32 : DzLies cX2_begin (.mk ⟨[0x00, 0x22, 0x2a, 0x03, 0xb5, 0x00, 0x25, 0x2a, 0x03, 0xb5, 0x00, 0x28, 0xb1]⟩) 32 := dz_lies (m := 13) (Nat.zero_lt_succ _) rfl
theorem dX2_begin_34 : decode cX2_begin 34 = .ok (.aload_n 0, 1) := dz1 (k := 2) (m := 1) dza0_cX2_begin_32 di_0 (Nat.zero_lt_succ _) rfl
theorem dX2_begin_35 : decode cX2_begin 35 = .ok (.iconst 0, 1) := dz1 (k := 3) (m := 1) dza0_cX2_begin_32 di_8 (Nat.zero_lt_succ _) rfl
theorem dX2_begin_36 : decode cX2_begin 36 = .ok (.putfield 37, 3) := dz1 (k := 4) (m := 3) dza0_cX2_begin_32 di_40 (Nat.zero_lt_succ _) rfl
theorem dX2_begin_39 : decode cX2_begin 39 = .ok (.aload_n 0, 1) := dz1 (k := 7) (m := 1) dza0_cX2_begin_32 di_0 (Nat.zero_lt_succ _) rfl
theorem dX2_begin_40 : decode cX2_begin 40 = .ok (.iconst 0, 1) := dz1 (k := 8) (m := 1) dza0_cX2_begin_32 di_8 (Nat.zero_lt_succ _) rfl
theorem dX2_begin_41 : decode cX2_begin 41 = .ok (.putfield 40, 3) := dz1 (k := 9) (m := 3) dza0_cX2_begin_32 di_41 (Nat.zero_lt_succ _) rfl
theorem dX2_begin_44 : decode cX2_begin 44 = .ok (.return_, 1) := dz1 (k := 12) (m := 1) dza0_cX2_begin_32 di_2 (Nat.zero_lt_succ _) rfl
set_option maxRecDepth 100000 in
theorem dza0_cX2_take_0 : DzLies cX2_take (.mk ⟨[0x03, 0x3d, 0x1c, 0x07, 0xa2, 0x00, 0x15, 0x2a, 0xb4, 0x00, 0x09, 0x1c, 0x2b, 0xb4, 0x00, 0x09, 0x1c, 0x2e, 0x4f, 0x84, 0x02, 0x01, 0xa7, 0xff, 0xec, 0x2a, 0x2b, 0xb4, 0x00, 0x19, 0xb5, 0x00, 0x19]⟩) 0 := dz_lies (m := 33) (Nat.zero_lt_succ _) rfl
theorem dX2_take_0 : decode cX2_take 0 = .ok (.iconst 0, 1) := dz1 (k := 0) (m := 1) dza0_cX2_take_0 di_8 (Nat.zero_lt_succ _) rfl
theorem dX2_take_1 : decode cX2_take 1 = .ok (.istore_n 2, 1) := dz1 (k := 1) (m := 1) dza0_cX2_take_0 di_27 (Nat.zero_lt_succ _) rfl
theorem dX2_take_2 : decode cX2_take 2 = .ok (.iload_n 2, 1) := dz1 (k := 2) (m := 1) dza0_cX2_take_0 di_28 (Nat.zero_lt_succ _) rfl
theorem dX2_take_3 : decode cX2_take 3 = .ok (.iconst 4, 1) := dz1 (k := 3) (m := 1) dza0_cX2_take_0 di_33 (Nat.zero_lt_succ _) rfl
theorem dX2_take_4 : decode cX2_take 4 = .ok (.if_icmp .ge 21, 3) := dz1 (k := 4) (m := 3) dza0_cX2_take_0 di_29 (Nat.zero_lt_succ _) rfl
theorem dX2_take_7 : decode cX2_take 7 = .ok (.aload_n 0, 1) := dz1 (k := 7) (m := 1) dza0_cX2_take_0 di_0 (Nat.zero_lt_succ _) rfl
theorem dX2_take_8 : decode cX2_take 8 = .ok (.getfield 9, 3) := dz1 (k := 8) (m := 3) dza0_cX2_take_0 di_21 (Nat.zero_lt_succ _) rfl
theorem dX2_take_11 : decode cX2_take 11 = .ok (.iload_n 2, 1) := dz1 (k := 11) (m := 1) dza0_cX2_take_0 di_28 (Nat.zero_lt_succ _) rfl
theorem dX2_take_12 : decode cX2_take 12 = .ok (.aload_n 1, 1) := dz1 (k := 12) (m := 1) dza0_cX2_take_0 di_26 (Nat.zero_lt_succ _) rfl
theorem dX2_take_13 : decode cX2_take 13 = .ok (.getfield 9, 3) := dz1 (k := 13) (m := 3) dza0_cX2_take_0 di_21 (Nat.zero_lt_succ _) rfl
theorem dX2_take_16 : decode cX2_take 16 = .ok (.iload_n 2, 1) := dz1 (k := 16) (m := 1) dza0_cX2_take_0 di_28 (Nat.zero_lt_succ _) rfl
theorem dX2_take_17 : decode cX2_take 17 = .ok (.iaload, 1) := dz1 (k := 17) (m := 1) dza0_cX2_take_0 di_30 (Nat.zero_lt_succ _) rfl
theorem dX2_take_18 : decode cX2_take 18 = .ok (.iastore, 1) := dz1 (k := 18) (m := 1) dza0_cX2_take_0 di_22 (Nat.zero_lt_succ _) rfl
theorem dX2_take_19 : decode cX2_take 19 = .ok (.iinc 2 1, 3) := dz1 (k := 19) (m := 3) dza0_cX2_take_0 di_31 (Nat.zero_lt_succ _) rfl
theorem dX2_take_22 : decode cX2_take 22 = .ok (.goto (-20), 3) := dz1 (k := 22) (m := 3) dza0_cX2_take_0 di_42 (Nat.zero_lt_succ _) rfl
theorem dX2_take_25 : decode cX2_take 25 = .ok (.aload_n 0, 1) := dz1 (k := 25) (m := 1) dza0_cX2_take_0 di_0 (Nat.zero_lt_succ _) rfl
theorem dX2_take_26 : decode cX2_take 26 = .ok (.aload_n 1, 1) := dz1 (k := 26) (m := 1) dza0_cX2_take_0 di_26 (Nat.zero_lt_succ _) rfl
theorem dX2_take_27 : decode cX2_take 27 = .ok (.getfield 25, 3) := dz1 (k := 27) (m := 3) dza0_cX2_take_0 di_43 (Nat.zero_lt_succ _) rfl
theorem dX2_take_30 : decode cX2_take 30 = .ok (.putfield 25, 3) := dz1 (k := 30) (m := 3) dza0_cX2_take_0 di_35 (Nat.zero_lt_succ _) rfl
set_option maxRecDepth 100000 in
theorem dza0_cX2_take_32 : DzLies cX2_take (.mk ⟨[0x19, 0x2a, 0x2b, 0xb4, 0x00, 0x22, 0xb5, 0x00, 0x22, 0x2a, 0x2b, 0xb4, 0x00, 0x25, 0xb5, 0x00, 0x25, 0x2a, 0x2b, 0xb4, 0x00, 0x28, 0xb5, 0x00, 0x28, 0xb1]⟩) 32 := dz_lies (m := 26) (Nat.zero_lt_succ _) rfl
theorem dX2_take_33 : decode cX2_take 33 = .ok (.aload_n 0, 1) := dz1 (k := 1) (m := 1) dza0_cX2_take_32 di_0 (Nat.zero_lt_succ _) rfl
theorem dX2_take_34 : decode cX2_take 34 = .ok (.aload_n 1, 1) := dz1 (k := 2) (m := 1) dza0_cX2_take_32 di_26 (Nat.zero_lt_succ _) rfl
theorem dX2_take_35 : decode cX2_take 35 = .ok (.getfield 34, 3) := dz1 (k := 3) (m := 3) dza0_cX2_take_32 di_44 (Nat.zero_lt_succ _) rfl
theorem dX2_take_38 : decode cX2_take 38 = .ok (.putfield 34, 3) := dz1 (k := 6) (m := 3) dza0_cX2_take_32 di_39 (Nat.zero_lt_succ _) rfl
theorem dX2_take_41 : decode cX2_take 41 = .ok (.aload_n 0, 1) := dz1 (k := 9) (m := 1) dza0_cX2_take_32 di_0 (Nat.zero_lt_succ _) rfl
theorem dX2_take_42 : decode cX2_take 42 = .ok (.aload_n 1, 1) := dz1 (k := 10) (m := 1) dza0_cX2_take_32 di_26 (Nat.zero_lt_succ _) rfl
theorem dX2_take_43 : decode cX2_take 43 = .ok (.getfield 37, 3) := dz1 (k := 11) (m := 3) dza0_cX2_take_32 di_45 (Nat.zero_lt_succ _) rfl
theorem dX2_take_46 : decode cX2_take 46 = .ok (.putfield 37, 3) := dz1 (k := 14) (m := 3) dza0_cX2_take_32 di_40 (Nat.zero_lt_succ _) rfl
theorem dX2_take_49 : decode cX2_take 49 = .ok (.aload_n 0, 1) := dz1 (k := 17) (m := 1) dza0_cX2_take_32 di_0 (Nat.zero_lt_succ _) rfl
theorem dX2_take_50 : decode cX2_take 50 = .ok (.aload_n 1, 1) := dz1 (k := 18) (m := 1) dza0_cX2_take_32 di_26 (Nat.zero_lt_succ _) rfl
theorem dX2_take_51 : decode cX2_take 51 = .ok (.getfield 40, 3) := dz1 (k := 19) (m := 3) dza0_cX2_take_32 di_46 (Nat.zero_lt_succ _) rfl
theorem dX2_take_54 : decode cX2_take 54 = .ok (.putfield 40, 3) := dz1 (k := 22) (m := 3) dza0_cX2_take_32 di_41 (Nat.zero_lt_succ _) rfl
theorem dX2_take_57 : decode cX2_take 57 = .ok (.return_, 1) := dz1 (k := 25) (m := 1) dza0_cX2_take_32 di_2 (Nat.zero_lt_succ _) rfl
set_option maxRecDepth 100000 in
theorem dza0_cX2_holds_0 : DzLies cX2_holds (.mk ⟨[0x2a, 0xb4, 0x00, 0x22, 0x1b, 0x7a, 0x04, 0x7e, 0x04, 0xa0, 0x00, 0x07, 0x04, 0xa7, 0x00, 0x04, 0x03, 0xac]⟩) 0 := dz_lies (m := 18) (Nat.zero_lt_succ _) rfl
theorem dX2_holds_0 : decode cX2_holds 0 = .ok (.aload_n 0, 1) := dz1 (k := 0) (m := 1) dza0_cX2_holds_0 di_0 (Nat.zero_lt_succ _) rfl
theorem dX2_holds_1 : decode cX2_holds 1 = .ok (.getfield 34, 3) := dz1 (k := 1) (m := 3) dza0_cX2_holds_0 di_44 (Nat.zero_lt_succ _) rfl
theorem dX2_holds_4 : decode cX2_holds 4 = .ok (.iload_n 1, 1) := dz1 (k := 4) (m := 1) dza0_cX2_holds_0 di_11 (Nat.zero_lt_succ _) rfl
theorem dX2_holds_5 : decode cX2_holds 5 = .ok (.ishr, 1) := dz1 (k := 5) (m := 1) dza0_cX2_holds_0 di_47 (Nat.zero_lt_succ _) rfl
theorem dX2_holds_6 : decode cX2_holds 6 = .ok (.iconst 1, 1) := dz1 (k := 6) (m := 1) dza0_cX2_holds_0 di_10 (Nat.zero_lt_succ _) rfl
theorem dX2_holds_7 : decode cX2_holds 7 = .ok (.iand, 1) := dz1 (k := 7) (m := 1) dza0_cX2_holds_0 di_48 (Nat.zero_lt_succ _) rfl
theorem dX2_holds_8 : decode cX2_holds 8 = .ok (.iconst 1, 1) := dz1 (k := 8) (m := 1) dza0_cX2_holds_0 di_10 (Nat.zero_lt_succ _) rfl
theorem dX2_holds_9 : decode cX2_holds 9 = .ok (.if_icmp .ne 7, 3) := dz1 (k := 9) (m := 3) dza0_cX2_holds_0 di_7 (Nat.zero_lt_succ _) rfl
theorem dX2_holds_12 : decode cX2_holds 12 = .ok (.iconst 1, 1) := dz1 (k := 12) (m := 1) dza0_cX2_holds_0 di_10 (Nat.zero_lt_succ _) rfl
theorem dX2_holds_13 : decode cX2_holds 13 = .ok (.goto 4, 3) := dz1 (k := 13) (m := 3) dza0_cX2_holds_0 di_49 (Nat.zero_lt_succ _) rfl
theorem dX2_holds_16 : decode cX2_holds 16 = .ok (.iconst 0, 1) := dz1 (k := 16) (m := 1) dza0_cX2_holds_0 di_8 (Nat.zero_lt_succ _) rfl
theorem dX2_holds_17 : decode cX2_holds 17 = .ok (.ireturn, 1) := dz1 (k := 17) (m := 1) dza0_cX2_holds_0 di_13 (Nat.zero_lt_succ _) rfl
set_option maxRecDepth 100000 in
theorem dza0_cX2_hasWon_0 : DzLies cX2_hasWon (.mk ⟨[0x2a, 0xb4, 0x00, 0x19, 0x1b, 0x7a, 0x04, 0x7e, 0x04, 0xa0, 0x00, 0x07, 0x04, 0xa7, 0x00, 0x04, 0x03, 0xac]⟩) 0 := dz_lies (m := 18) (Nat.zero_lt_succ _) rfl
theorem dX2_hasWon_0 : decode cX2_hasWon 0 = .ok (.aload_n 0, 1) := dz1 (k := 0) (m := 1) dza0_cX2_hasWon_0 di_0 (Nat.zero_lt_succ _) rfl
theorem dX2_hasWon_1 : decode cX2_hasWon 1 = .ok (.getfield 25, 3) := dz1 (k := 1) (m := 3) dza0_cX2_hasWon_0 di_43 (Nat.zero_lt_succ _) rfl
theorem dX2_hasWon_4 : decode cX2_hasWon 4 = .ok (.iload_n 1, 1) := dz1 (k := 4) (m := 1) dza0_cX2_hasWon_0 di_11 (Nat.zero_lt_succ _) rfl
theorem dX2_hasWon_5 : decode cX2_hasWon 5 = .ok (.ishr, 1) := dz1 (k := 5) (m := 1) dza0_cX2_hasWon_0 di_47 (Nat.zero_lt_succ _) rfl
theorem dX2_hasWon_6 : decode cX2_hasWon 6 = .ok (.iconst 1, 1) := dz1 (k := 6) (m := 1) dza0_cX2_hasWon_0 di_10 (Nat.zero_lt_succ _) rfl
theorem dX2_hasWon_7 : decode cX2_hasWon 7 = .ok (.iand, 1) := dz1 (k := 7) (m := 1) dza0_cX2_hasWon_0 di_48 (Nat.zero_lt_succ _) rfl
theorem dX2_hasWon_8 : decode cX2_hasWon 8 = .ok (.iconst 1, 1) := dz1 (k := 8) (m := 1) dza0_cX2_hasWon_0 di_10 (Nat.zero_lt_succ _) rfl
theorem dX2_hasWon_9 : decode cX2_hasWon 9 = .ok (.if_icmp .ne 7, 3) := dz1 (k := 9) (m := 3) dza0_cX2_hasWon_0 di_7 (Nat.zero_lt_succ _) rfl
theorem dX2_hasWon_12 : decode cX2_hasWon 12 = .ok (.iconst 1, 1) := dz1 (k := 12) (m := 1) dza0_cX2_hasWon_0 di_10 (Nat.zero_lt_succ _) rfl
theorem dX2_hasWon_13 : decode cX2_hasWon 13 = .ok (.goto 4, 3) := dz1 (k := 13) (m := 3) dza0_cX2_hasWon_0 di_49 (Nat.zero_lt_succ _) rfl
theorem dX2_hasWon_16 : decode cX2_hasWon 16 = .ok (.iconst 0, 1) := dz1 (k := 16) (m := 1) dza0_cX2_hasWon_0 di_8 (Nat.zero_lt_succ _) rfl
theorem dX2_hasWon_17 : decode cX2_hasWon 17 = .ok (.ireturn, 1) := dz1 (k := 17) (m := 1) dza0_cX2_hasWon_0 di_13 (Nat.zero_lt_succ _) rfl
set_option maxRecDepth 100000 in
theorem dza0_cX2_ring_0 : DzLies cX2_ring (.mk ⟨[0x2a, 0xb4, 0x00, 0x19, 0x3e, 0x03, 0x36, 0x04, 0x15, 0x04, 0x2a, 0xb4, 0x00, 0x0f, 0xb4, 0x00, 0x1d, 0xa2, 0x00, 0x5f, 0x1c, 0x15, 0x04, 0x7a, 0x04, 0x7e, 0x04, 0xa0, 0x00, 0x4f, 0x2a, 0xb4, 0x00, 0x0f]⟩) 0 := dz_lies (m := 34) (Nat.zero_lt_succ _) rfl
theorem dX2_ring_0 : decode cX2_ring 0 = .ok (.aload_n 0, 1) := dz1 (k := 0) (m := 1) dza0_cX2_ring_0 di_0 (Nat.zero_lt_succ _) rfl
theorem dX2_ring_1 : decode cX2_ring 1 = .ok (.getfield 25, 3) := dz1 (k := 1) (m := 3) dza0_cX2_ring_0 di_43 (Nat.zero_lt_succ _) rfl
theorem dX2_ring_4 : decode cX2_ring 4 = .ok (.istore_n 3, 1) := dz1 (k := 4) (m := 1) dza0_cX2_ring_0 di_50 (Nat.zero_lt_succ _) rfl
theorem dX2_ring_5 : decode cX2_ring 5 = .ok (.iconst 0, 1) := dz1 (k := 5) (m := 1) dza0_cX2_ring_0 di_8 (Nat.zero_lt_succ _) rfl
theorem dX2_ring_6 : decode cX2_ring 6 = .ok (.istore 4, 2) := dz1 (k := 6) (m := 2) dza0_cX2_ring_0 di_51 (Nat.zero_lt_succ _) rfl
theorem dX2_ring_8 : decode cX2_ring 8 = .ok (.iload 4, 2) := dz1 (k := 8) (m := 2) dza0_cX2_ring_0 di_52 (Nat.zero_lt_succ _) rfl
theorem dX2_ring_10 : decode cX2_ring 10 = .ok (.aload_n 0, 1) := dz1 (k := 10) (m := 1) dza0_cX2_ring_0 di_0 (Nat.zero_lt_succ _) rfl
theorem dX2_ring_11 : decode cX2_ring 11 = .ok (.getfield 15, 3) := dz1 (k := 11) (m := 3) dza0_cX2_ring_0 di_19 (Nat.zero_lt_succ _) rfl
theorem dX2_ring_14 : decode cX2_ring 14 = .ok (.getfield 29, 3) := dz1 (k := 14) (m := 3) dza0_cX2_ring_0 di_36 (Nat.zero_lt_succ _) rfl
theorem dX2_ring_17 : decode cX2_ring 17 = .ok (.if_icmp .ge 95, 3) := dz1 (k := 17) (m := 3) dza0_cX2_ring_0 di_53 (Nat.zero_lt_succ _) rfl
theorem dX2_ring_20 : decode cX2_ring 20 = .ok (.iload_n 2, 1) := dz1 (k := 20) (m := 1) dza0_cX2_ring_0 di_28 (Nat.zero_lt_succ _) rfl
theorem dX2_ring_21 : decode cX2_ring 21 = .ok (.iload 4, 2) := dz1 (k := 21) (m := 2) dza0_cX2_ring_0 di_52 (Nat.zero_lt_succ _) rfl
theorem dX2_ring_23 : decode cX2_ring 23 = .ok (.ishr, 1) := dz1 (k := 23) (m := 1) dza0_cX2_ring_0 di_47 (Nat.zero_lt_succ _) rfl
theorem dX2_ring_24 : decode cX2_ring 24 = .ok (.iconst 1, 1) := dz1 (k := 24) (m := 1) dza0_cX2_ring_0 di_10 (Nat.zero_lt_succ _) rfl
theorem dX2_ring_25 : decode cX2_ring 25 = .ok (.iand, 1) := dz1 (k := 25) (m := 1) dza0_cX2_ring_0 di_48 (Nat.zero_lt_succ _) rfl
theorem dX2_ring_26 : decode cX2_ring 26 = .ok (.iconst 1, 1) := dz1 (k := 26) (m := 1) dza0_cX2_ring_0 di_10 (Nat.zero_lt_succ _) rfl
theorem dX2_ring_27 : decode cX2_ring 27 = .ok (.if_icmp .ne 79, 3) := dz1 (k := 27) (m := 3) dza0_cX2_ring_0 di_54 (Nat.zero_lt_succ _) rfl
theorem dX2_ring_30 : decode cX2_ring 30 = .ok (.aload_n 0, 1) := dz1 (k := 30) (m := 1) dza0_cX2_ring_0 di_0 (Nat.zero_lt_succ _) rfl
theorem dX2_ring_31 : decode cX2_ring 31 = .ok (.getfield 15, 3) := dz1 (k := 31) (m := 3) dza0_cX2_ring_0 di_19 (Nat.zero_lt_succ _) rfl
set_option maxRecDepth 100000 in
theorem dza0_cX2_ring_32 : DzLies cX2_ring (.mk ⟨[0x00, 0x0f, 0x15, 0x04, 0xb6, 0x00, 0x2b, 0x3a, 0x05, 0x2a, 0xb4, 0x00, 0x09, 0x15, 0x04, 0x2a, 0xb4, 0x00, 0x0f, 0x15, 0x04, 0x2a, 0xb4, 0x00, 0x09, 0x15, 0x04, 0x2e, 0x19, 0x05, 0x1b, 0x2a]⟩) 32 := dz_lies (m := 32) (Nat.zero_lt_succ _) rfl
theorem dX2_ring_34 : decode cX2_ring 34 = .ok (.iload 4, 2) := dz1 (k := 2) (m := 2) dza0_cX2_ring_32 di_52 (Nat.zero_lt_succ _) rfl
theorem dX2_ring_36 : decode cX2_ring 36 = .ok (.invokevirtual 43, 3) := dz1 (k := 4) (m := 3) dza0_cX2_ring_32 di_55 (Nat.zero_lt_succ _) rfl
theorem dX2_ring_39 : decode cX2_ring 39 = .ok (.astore 5, 2) := dz1 (k := 7) (m := 2) dza0_cX2_ring_32 di_56 (Nat.zero_lt_succ _) rfl
theorem dX2_ring_41 : decode cX2_ring 41 = .ok (.aload_n 0, 1) := dz1 (k := 9) (m := 1) dza0_cX2_ring_32 di_0 (Nat.zero_lt_succ _) rfl
theorem dX2_ring_42 : decode cX2_ring 42 = .ok (.getfield 9, 3) := dz1 (k := 10) (m := 3) dza0_cX2_ring_32 di_21 (Nat.zero_lt_succ _) rfl
theorem dX2_ring_45 : decode cX2_ring 45 = .ok (.iload 4, 2) := dz1 (k := 13) (m := 2) dza0_cX2_ring_32 di_52 (Nat.zero_lt_succ _) rfl
theorem dX2_ring_47 : decode cX2_ring 47 = .ok (.aload_n 0, 1) := dz1 (k := 15) (m := 1) dza0_cX2_ring_32 di_0 (Nat.zero_lt_succ _) rfl
theorem dX2_ring_48 : decode cX2_ring 48 = .ok (.getfield 15, 3) := dz1 (k := 16) (m := 3) dza0_cX2_ring_32 di_19 (Nat.zero_lt_succ _) rfl
theorem dX2_ring_51 : decode cX2_ring 51 = .ok (.iload 4, 2) := dz1 (k := 19) (m := 2) dza0_cX2_ring_32 di_52 (Nat.zero_lt_succ _) rfl
theorem dX2_ring_53 : decode cX2_ring 53 = .ok (.aload_n 0, 1) := dz1 (k := 21) (m := 1) dza0_cX2_ring_32 di_0 (Nat.zero_lt_succ _) rfl
theorem dX2_ring_54 : decode cX2_ring 54 = .ok (.getfield 9, 3) := dz1 (k := 22) (m := 3) dza0_cX2_ring_32 di_21 (Nat.zero_lt_succ _) rfl
theorem dX2_ring_57 : decode cX2_ring 57 = .ok (.iload 4, 2) := dz1 (k := 25) (m := 2) dza0_cX2_ring_32 di_52 (Nat.zero_lt_succ _) rfl
theorem dX2_ring_59 : decode cX2_ring 59 = .ok (.iaload, 1) := dz1 (k := 27) (m := 1) dza0_cX2_ring_32 di_30 (Nat.zero_lt_succ _) rfl
theorem dX2_ring_60 : decode cX2_ring 60 = .ok (.aload 5, 2) := dz1 (k := 28) (m := 2) dza0_cX2_ring_32 di_57 (Nat.zero_lt_succ _) rfl
theorem dX2_ring_62 : decode cX2_ring 62 = .ok (.iload_n 1, 1) := dz1 (k := 30) (m := 1) dza0_cX2_ring_32 di_11 (Nat.zero_lt_succ _) rfl
theorem dX2_ring_63 : decode cX2_ring 63 = .ok (.aload_n 0, 1) := dz1 (k := 31) (m := 1) dza0_cX2_ring_32 di_0 (Nat.zero_lt_succ _) rfl
set_option maxRecDepth 100000 in
theorem dza0_cX2_ring_64 : DzLies cX2_ring (.mk ⟨[0xb4, 0x00, 0x25, 0x2a, 0xb4, 0x00, 0x28, 0xb6, 0x00, 0x2f, 0xb6, 0x00, 0x35, 0x4f, 0x19, 0x05, 0x2a, 0xb4, 0x00, 0x09, 0x15, 0x04, 0x2e, 0xb6, 0x00, 0x38, 0x9a, 0x00, 0x10, 0x2a, 0x59, 0xb4, 0x00, 0x19]⟩) 64 := dz_lies (m := 34) (Nat.zero_lt_succ _) rfl
theorem dX2_ring_64 : decode cX2_ring 64 = .ok (.getfield 37, 3) := dz1 (k := 0) (m := 3) dza0_cX2_ring_64 di_45 (Nat.zero_lt_succ _) rfl
theorem dX2_ring_67 : decode cX2_ring 67 = .ok (.aload_n 0, 1) := dz1 (k := 3) (m := 1) dza0_cX2_ring_64 di_0 (Nat.zero_lt_succ _) rfl
theorem dX2_ring_68 : decode cX2_ring 68 = .ok (.getfield 40, 3) := dz1 (k := 4) (m := 3) dza0_cX2_ring_64 di_46 (Nat.zero_lt_succ _) rfl
theorem dX2_ring_71 : decode cX2_ring 71 = .ok (.invokevirtual 47, 3) := dz1 (k := 7) (m := 3) dza0_cX2_ring_64 di_58 (Nat.zero_lt_succ _) rfl
theorem dX2_ring_74 : decode cX2_ring 74 = .ok (.invokevirtual 53, 3) := dz1 (k := 10) (m := 3) dza0_cX2_ring_64 di_59 (Nat.zero_lt_succ _) rfl
theorem dX2_ring_77 : decode cX2_ring 77 = .ok (.iastore, 1) := dz1 (k := 13) (m := 1) dza0_cX2_ring_64 di_22 (Nat.zero_lt_succ _) rfl
theorem dX2_ring_78 : decode cX2_ring 78 = .ok (.aload 5, 2) := dz1 (k := 14) (m := 2) dza0_cX2_ring_64 di_57 (Nat.zero_lt_succ _) rfl
theorem dX2_ring_80 : decode cX2_ring 80 = .ok (.aload_n 0, 1) := dz1 (k := 16) (m := 1) dza0_cX2_ring_64 di_0 (Nat.zero_lt_succ _) rfl
theorem dX2_ring_81 : decode cX2_ring 81 = .ok (.getfield 9, 3) := dz1 (k := 17) (m := 3) dza0_cX2_ring_64 di_21 (Nat.zero_lt_succ _) rfl
theorem dX2_ring_84 : decode cX2_ring 84 = .ok (.iload 4, 2) := dz1 (k := 20) (m := 2) dza0_cX2_ring_64 di_52 (Nat.zero_lt_succ _) rfl
theorem dX2_ring_86 : decode cX2_ring 86 = .ok (.iaload, 1) := dz1 (k := 22) (m := 1) dza0_cX2_ring_64 di_30 (Nat.zero_lt_succ _) rfl
theorem dX2_ring_87 : decode cX2_ring 87 = .ok (.invokevirtual 56, 3) := dz1 (k := 23) (m := 3) dza0_cX2_ring_64 di_60 (Nat.zero_lt_succ _) rfl
theorem dX2_ring_90 : decode cX2_ring 90 = .ok (.ifCond .ne 16, 3) := dz1 (k := 26) (m := 3) dza0_cX2_ring_64 di_61 (Nat.zero_lt_succ _) rfl
theorem dX2_ring_93 : decode cX2_ring 93 = .ok (.aload_n 0, 1) := dz1 (k := 29) (m := 1) dza0_cX2_ring_64 di_0 (Nat.zero_lt_succ _) rfl
theorem dX2_ring_94 : decode cX2_ring 94 = .ok (.dup, 1) := dz1 (k := 30) (m := 1) dza0_cX2_ring_64 di_23 (Nat.zero_lt_succ _) rfl
theorem dX2_ring_95 : decode cX2_ring 95 = .ok (.getfield 25, 3) := dz1 (k := 31) (m := 3) dza0_cX2_ring_64 di_43 (Nat.zero_lt_succ _) rfl
set_option maxRecDepth 100000 in
theorem dza0_cX2_ring_96 : DzLies cX2_ring (.mk ⟨[0x00, 0x19, 0x04, 0x15, 0x04, 0x78, 0x80, 0xb5, 0x00, 0x19, 0x84, 0x04, 0x01, 0xa7, 0xff, 0x9b, 0x2a, 0x59, 0xb4, 0x00, 0x22, 0x04, 0x1b, 0x78, 0x02, 0x82, 0x7e, 0xb5, 0x00, 0x22, 0x2a, 0x1b]⟩) 96 := dz_lies (m := 32) (Nat.zero_lt_succ _) rfl
theorem dX2_ring_98 : decode cX2_ring 98 = .ok (.iconst 1, 1) := dz1 (k := 2) (m := 1) dza0_cX2_ring_96 di_10 (Nat.zero_lt_succ _) rfl
theorem dX2_ring_99 : decode cX2_ring 99 = .ok (.iload 4, 2) := dz1 (k := 3) (m := 2) dza0_cX2_ring_96 di_52 (Nat.zero_lt_succ _) rfl
theorem dX2_ring_101 : decode cX2_ring 101 = .ok (.ishl, 1) := dz1 (k := 5) (m := 1) dza0_cX2_ring_96 di_12 (Nat.zero_lt_succ _) rfl
theorem dX2_ring_102 : decode cX2_ring 102 = .ok (.ior, 1) := dz1 (k := 6) (m := 1) dza0_cX2_ring_96 di_62 (Nat.zero_lt_succ _) rfl
theorem dX2_ring_103 : decode cX2_ring 103 = .ok (.putfield 25, 3) := dz1 (k := 7) (m := 3) dza0_cX2_ring_96 di_35 (Nat.zero_lt_succ _) rfl
theorem dX2_ring_106 : decode cX2_ring 106 = .ok (.iinc 4 1, 3) := dz1 (k := 10) (m := 3) dza0_cX2_ring_96 di_63 (Nat.zero_lt_succ _) rfl
theorem dX2_ring_109 : decode cX2_ring 109 = .ok (.goto (-101), 3) := dz1 (k := 13) (m := 3) dza0_cX2_ring_96 di_64 (Nat.zero_lt_succ _) rfl
theorem dX2_ring_112 : decode cX2_ring 112 = .ok (.aload_n 0, 1) := dz1 (k := 16) (m := 1) dza0_cX2_ring_96 di_0 (Nat.zero_lt_succ _) rfl
theorem dX2_ring_113 : decode cX2_ring 113 = .ok (.dup, 1) := dz1 (k := 17) (m := 1) dza0_cX2_ring_96 di_23 (Nat.zero_lt_succ _) rfl
theorem dX2_ring_114 : decode cX2_ring 114 = .ok (.getfield 34, 3) := dz1 (k := 18) (m := 3) dza0_cX2_ring_96 di_44 (Nat.zero_lt_succ _) rfl
theorem dX2_ring_117 : decode cX2_ring 117 = .ok (.iconst 1, 1) := dz1 (k := 21) (m := 1) dza0_cX2_ring_96 di_10 (Nat.zero_lt_succ _) rfl
theorem dX2_ring_118 : decode cX2_ring 118 = .ok (.iload_n 1, 1) := dz1 (k := 22) (m := 1) dza0_cX2_ring_96 di_11 (Nat.zero_lt_succ _) rfl
theorem dX2_ring_119 : decode cX2_ring 119 = .ok (.ishl, 1) := dz1 (k := 23) (m := 1) dza0_cX2_ring_96 di_12 (Nat.zero_lt_succ _) rfl
theorem dX2_ring_120 : decode cX2_ring 120 = .ok (.iconst (-1), 1) := dz1 (k := 24) (m := 1) dza0_cX2_ring_96 di_65 (Nat.zero_lt_succ _) rfl
theorem dX2_ring_121 : decode cX2_ring 121 = .ok (.ixor, 1) := dz1 (k := 25) (m := 1) dza0_cX2_ring_96 di_66 (Nat.zero_lt_succ _) rfl
theorem dX2_ring_122 : decode cX2_ring 122 = .ok (.iand, 1) := dz1 (k := 26) (m := 1) dza0_cX2_ring_96 di_48 (Nat.zero_lt_succ _) rfl
theorem dX2_ring_123 : decode cX2_ring 123 = .ok (.putfield 34, 3) := dz1 (k := 27) (m := 3) dza0_cX2_ring_96 di_39 (Nat.zero_lt_succ _) rfl
theorem dX2_ring_126 : decode cX2_ring 126 = .ok (.aload_n 0, 1) := dz1 (k := 30) (m := 1) dza0_cX2_ring_96 di_0 (Nat.zero_lt_succ _) rfl
theorem dX2_ring_127 : decode cX2_ring 127 = .ok (.iload_n 1, 1) := dz1 (k := 31) (m := 1) dza0_cX2_ring_96 di_11 (Nat.zero_lt_succ _) rfl
set_option maxRecDepth 100000 in
theorem dza0_cX2_ring_128 : DzLies cX2_ring (.mk ⟨[0xb5, 0x00, 0x25, 0x2a, 0x59, 0xb4, 0x00, 0x28, 0x04, 0x60, 0xb5, 0x00, 0x28, 0x2a, 0xb4, 0x00, 0x19, 0x1d, 0x02, 0x82, 0x7e, 0xac]⟩) 128 := dz_lies (m := 22) (Nat.zero_lt_succ _) rfl
theorem dX2_ring_128 : decode cX2_ring 128 = .ok (.putfield 37, 3) := dz1 (k := 0) (m := 3) dza0_cX2_ring_128 di_40 (Nat.zero_lt_succ _) rfl
theorem dX2_ring_131 : decode cX2_ring 131 = .ok (.aload_n 0, 1) := dz1 (k := 3) (m := 1) dza0_cX2_ring_128 di_0 (Nat.zero_lt_succ _) rfl
theorem dX2_ring_132 : decode cX2_ring 132 = .ok (.dup, 1) := dz1 (k := 4) (m := 1) dza0_cX2_ring_128 di_23 (Nat.zero_lt_succ _) rfl
theorem dX2_ring_133 : decode cX2_ring 133 = .ok (.getfield 40, 3) := dz1 (k := 5) (m := 3) dza0_cX2_ring_128 di_46 (Nat.zero_lt_succ _) rfl
theorem dX2_ring_136 : decode cX2_ring 136 = .ok (.iconst 1, 1) := dz1 (k := 8) (m := 1) dza0_cX2_ring_128 di_10 (Nat.zero_lt_succ _) rfl
theorem dX2_ring_137 : decode cX2_ring 137 = .ok (.iadd, 1) := dz1 (k := 9) (m := 1) dza0_cX2_ring_128 di_24 (Nat.zero_lt_succ _) rfl
theorem dX2_ring_138 : decode cX2_ring 138 = .ok (.putfield 40, 3) := dz1 (k := 10) (m := 3) dza0_cX2_ring_128 di_41 (Nat.zero_lt_succ _) rfl
theorem dX2_ring_141 : decode cX2_ring 141 = .ok (.aload_n 0, 1) := dz1 (k := 13) (m := 1) dza0_cX2_ring_128 di_0 (Nat.zero_lt_succ _) rfl
theorem dX2_ring_142 : decode cX2_ring 142 = .ok (.getfield 25, 3) := dz1 (k := 14) (m := 3) dza0_cX2_ring_128 di_43 (Nat.zero_lt_succ _) rfl
theorem dX2_ring_145 : decode cX2_ring 145 = .ok (.iload_n 3, 1) := dz1 (k := 17) (m := 1) dza0_cX2_ring_128 di_3 (Nat.zero_lt_succ _) rfl
theorem dX2_ring_146 : decode cX2_ring 146 = .ok (.iconst (-1), 1) := dz1 (k := 18) (m := 1) dza0_cX2_ring_128 di_65 (Nat.zero_lt_succ _) rfl
theorem dX2_ring_147 : decode cX2_ring 147 = .ok (.ixor, 1) := dz1 (k := 19) (m := 1) dza0_cX2_ring_128 di_66 (Nat.zero_lt_succ _) rfl
theorem dX2_ring_148 : decode cX2_ring 148 = .ok (.iand, 1) := dz1 (k := 20) (m := 1) dza0_cX2_ring_128 di_48 (Nat.zero_lt_succ _) rfl
theorem dX2_ring_149 : decode cX2_ring 149 = .ok (.ireturn, 1) := dz1 (k := 21) (m := 1) dza0_cX2_ring_128 di_13 (Nat.zero_lt_succ _) rfl
set_option maxRecDepth 100000 in
theorem dza0_cX2_turn_0 : DzLies cX2_turn (.mk ⟨[0x2a, 0xb4, 0x00, 0x09, 0x1b, 0x5c, 0x2e, 0x04, 0x1c, 0x78, 0x82, 0x4f, 0xb1]⟩) 0 := dz_lies (m := 13) (Nat.zero_lt_succ _) rfl
theorem dX2_turn_0 : decode cX2_turn 0 = .ok (.aload_n 0, 1) := dz1 (k := 0) (m := 1) dza0_cX2_turn_0 di_0 (Nat.zero_lt_succ _) rfl
theorem dX2_turn_1 : decode cX2_turn 1 = .ok (.getfield 9, 3) := dz1 (k := 1) (m := 3) dza0_cX2_turn_0 di_21 (Nat.zero_lt_succ _) rfl
theorem dX2_turn_4 : decode cX2_turn 4 = .ok (.iload_n 1, 1) := dz1 (k := 4) (m := 1) dza0_cX2_turn_0 di_11 (Nat.zero_lt_succ _) rfl
theorem dX2_turn_5 : decode cX2_turn 5 = .ok (.dup2, 1) := dz1 (k := 5) (m := 1) dza0_cX2_turn_0 di_67 (Nat.zero_lt_succ _) rfl
theorem dX2_turn_6 : decode cX2_turn 6 = .ok (.iaload, 1) := dz1 (k := 6) (m := 1) dza0_cX2_turn_0 di_30 (Nat.zero_lt_succ _) rfl
theorem dX2_turn_7 : decode cX2_turn 7 = .ok (.iconst 1, 1) := dz1 (k := 7) (m := 1) dza0_cX2_turn_0 di_10 (Nat.zero_lt_succ _) rfl
theorem dX2_turn_8 : decode cX2_turn 8 = .ok (.iload_n 2, 1) := dz1 (k := 8) (m := 1) dza0_cX2_turn_0 di_28 (Nat.zero_lt_succ _) rfl
theorem dX2_turn_9 : decode cX2_turn 9 = .ok (.ishl, 1) := dz1 (k := 9) (m := 1) dza0_cX2_turn_0 di_12 (Nat.zero_lt_succ _) rfl
theorem dX2_turn_10 : decode cX2_turn 10 = .ok (.ixor, 1) := dz1 (k := 10) (m := 1) dza0_cX2_turn_0 di_66 (Nat.zero_lt_succ _) rfl
theorem dX2_turn_11 : decode cX2_turn 11 = .ok (.iastore, 1) := dz1 (k := 11) (m := 1) dza0_cX2_turn_0 di_22 (Nat.zero_lt_succ _) rfl
theorem dX2_turn_12 : decode cX2_turn 12 = .ok (.return_, 1) := dz1 (k := 12) (m := 1) dza0_cX2_turn_0 di_2 (Nat.zero_lt_succ _) rfl
set_option maxRecDepth 100000 in
theorem dza0_cX2_allMarks_0 : DzLies cX2_allMarks (.mk ⟨[0x03, 0x3c, 0x03, 0x3d, 0x1c, 0x2a, 0xb4, 0x00, 0x0f, 0xb4, 0x00, 0x1d, 0xa2, 0x00, 0x15, 0x1b, 0x2a, 0xb4, 0x00, 0x09, 0x1c, 0x2e, 0xb8, 0x00, 0x3c, 0x60, 0x3c, 0x84, 0x02, 0x01, 0xa7, 0xff, 0xe6]⟩) 0 := dz_lies (m := 33) (Nat.zero_lt_succ _) rfl
theorem dX2_allMarks_0 : decode cX2_allMarks 0 = .ok (.iconst 0, 1) := dz1 (k := 0) (m := 1) dza0_cX2_allMarks_0 di_8 (Nat.zero_lt_succ _) rfl
theorem dX2_allMarks_1 : decode cX2_allMarks 1 = .ok (.istore_n 1, 1) := dz1 (k := 1) (m := 1) dza0_cX2_allMarks_0 di_68 (Nat.zero_lt_succ _) rfl
theorem dX2_allMarks_2 : decode cX2_allMarks 2 = .ok (.iconst 0, 1) := dz1 (k := 2) (m := 1) dza0_cX2_allMarks_0 di_8 (Nat.zero_lt_succ _) rfl
theorem dX2_allMarks_3 : decode cX2_allMarks 3 = .ok (.istore_n 2, 1) := dz1 (k := 3) (m := 1) dza0_cX2_allMarks_0 di_27 (Nat.zero_lt_succ _) rfl
theorem dX2_allMarks_4 : decode cX2_allMarks 4 = .ok (.iload_n 2, 1) := dz1 (k := 4) (m := 1) dza0_cX2_allMarks_0 di_28 (Nat.zero_lt_succ _) rfl
theorem dX2_allMarks_5 : decode cX2_allMarks 5 = .ok (.aload_n 0, 1) := dz1 (k := 5) (m := 1) dza0_cX2_allMarks_0 di_0 (Nat.zero_lt_succ _) rfl
theorem dX2_allMarks_6 : decode cX2_allMarks 6 = .ok (.getfield 15, 3) := dz1 (k := 6) (m := 3) dza0_cX2_allMarks_0 di_19 (Nat.zero_lt_succ _) rfl
theorem dX2_allMarks_9 : decode cX2_allMarks 9 = .ok (.getfield 29, 3) := dz1 (k := 9) (m := 3) dza0_cX2_allMarks_0 di_36 (Nat.zero_lt_succ _) rfl
theorem dX2_allMarks_12 : decode cX2_allMarks 12 = .ok (.if_icmp .ge 21, 3) := dz1 (k := 12) (m := 3) dza0_cX2_allMarks_0 di_29 (Nat.zero_lt_succ _) rfl
theorem dX2_allMarks_15 : decode cX2_allMarks 15 = .ok (.iload_n 1, 1) := dz1 (k := 15) (m := 1) dza0_cX2_allMarks_0 di_11 (Nat.zero_lt_succ _) rfl
theorem dX2_allMarks_16 : decode cX2_allMarks 16 = .ok (.aload_n 0, 1) := dz1 (k := 16) (m := 1) dza0_cX2_allMarks_0 di_0 (Nat.zero_lt_succ _) rfl
theorem dX2_allMarks_17 : decode cX2_allMarks 17 = .ok (.getfield 9, 3) := dz1 (k := 17) (m := 3) dza0_cX2_allMarks_0 di_21 (Nat.zero_lt_succ _) rfl
theorem dX2_allMarks_20 : decode cX2_allMarks 20 = .ok (.iload_n 2, 1) := dz1 (k := 20) (m := 1) dza0_cX2_allMarks_0 di_28 (Nat.zero_lt_succ _) rfl
theorem dX2_allMarks_21 : decode cX2_allMarks 21 = .ok (.iaload, 1) := dz1 (k := 21) (m := 1) dza0_cX2_allMarks_0 di_30 (Nat.zero_lt_succ _) rfl
theorem dX2_allMarks_22 : decode cX2_allMarks 22 = .ok (.invokestatic 60, 3) := dz1 (k := 22) (m := 3) dza0_cX2_allMarks_0 di_69 (Nat.zero_lt_succ _) rfl
theorem dX2_allMarks_25 : decode cX2_allMarks 25 = .ok (.iadd, 1) := dz1 (k := 25) (m := 1) dza0_cX2_allMarks_0 di_24 (Nat.zero_lt_succ _) rfl
theorem dX2_allMarks_26 : decode cX2_allMarks 26 = .ok (.istore_n 1, 1) := dz1 (k := 26) (m := 1) dza0_cX2_allMarks_0 di_68 (Nat.zero_lt_succ _) rfl
theorem dX2_allMarks_27 : decode cX2_allMarks 27 = .ok (.iinc 2 1, 3) := dz1 (k := 27) (m := 3) dza0_cX2_allMarks_0 di_31 (Nat.zero_lt_succ _) rfl
theorem dX2_allMarks_30 : decode cX2_allMarks 30 = .ok (.goto (-26), 3) := dz1 (k := 30) (m := 3) dza0_cX2_allMarks_0 di_70 (Nat.zero_lt_succ _) rfl
set_option maxRecDepth 100000 in
theorem dza0_cX2_allMarks_32 : DzLies cX2_allMarks (.mk ⟨[0xe6, 0x1b, 0xac]⟩) 32 := dz_lies (m := 3) (Nat.zero_lt_succ _) rfl
theorem dX2_allMarks_33 : decode cX2_allMarks 33 = .ok (.iload_n 1, 1) := dz1 (k := 1) (m := 1) dza0_cX2_allMarks_32 di_11 (Nat.zero_lt_succ _) rfl
theorem dX2_allMarks_34 : decode cX2_allMarks 34 = .ok (.ireturn, 1) := dz1 (k := 2) (m := 1) dza0_cX2_allMarks_32 di_13 (Nat.zero_lt_succ _) rfl
set_option maxRecDepth 100000 in
theorem dza0_cX2_worth_0 : DzLies cX2_worth (.mk ⟨[0x2a, 0xb4, 0x00, 0x09, 0x1b, 0x2e, 0xb8, 0x00, 0x3c, 0x2a, 0x1b, 0xb6, 0x00, 0x41, 0x99, 0x00, 0x08, 0x10, 0x0a, 0xa7, 0x00, 0x04, 0x03, 0x60, 0xac]⟩) 0 := dz_lies (m := 25) (Nat.zero_lt_succ _) rfl
theorem dX2_worth_0 : decode cX2_worth 0 = .ok (.aload_n 0, 1) := dz1 (k := 0) (m := 1) dza0_cX2_worth_0 di_0 (Nat.zero_lt_succ _) rfl
theorem dX2_worth_1 : decode cX2_worth 1 = .ok (.getfield 9, 3) := dz1 (k := 1) (m := 3) dza0_cX2_worth_0 di_21 (Nat.zero_lt_succ _) rfl
theorem dX2_worth_4 : decode cX2_worth 4 = .ok (.iload_n 1, 1) := dz1 (k := 4) (m := 1) dza0_cX2_worth_0 di_11 (Nat.zero_lt_succ _) rfl
theorem dX2_worth_5 : decode cX2_worth 5 = .ok (.iaload, 1) := dz1 (k := 5) (m := 1) dza0_cX2_worth_0 di_30 (Nat.zero_lt_succ _) rfl
theorem dX2_worth_6 : decode cX2_worth 6 = .ok (.invokestatic 60, 3) := dz1 (k := 6) (m := 3) dza0_cX2_worth_0 di_69 (Nat.zero_lt_succ _) rfl
theorem dX2_worth_9 : decode cX2_worth 9 = .ok (.aload_n 0, 1) := dz1 (k := 9) (m := 1) dza0_cX2_worth_0 di_0 (Nat.zero_lt_succ _) rfl
theorem dX2_worth_10 : decode cX2_worth 10 = .ok (.iload_n 1, 1) := dz1 (k := 10) (m := 1) dza0_cX2_worth_0 di_11 (Nat.zero_lt_succ _) rfl
theorem dX2_worth_11 : decode cX2_worth 11 = .ok (.invokevirtual 65, 3) := dz1 (k := 11) (m := 3) dza0_cX2_worth_0 di_71 (Nat.zero_lt_succ _) rfl
theorem dX2_worth_14 : decode cX2_worth 14 = .ok (.ifCond .eq 8, 3) := dz1 (k := 14) (m := 3) dza0_cX2_worth_0 di_72 (Nat.zero_lt_succ _) rfl
theorem dX2_worth_17 : decode cX2_worth 17 = .ok (.bipush 10, 2) := dz1 (k := 17) (m := 2) dza0_cX2_worth_0 di_73 (Nat.zero_lt_succ _) rfl
theorem dX2_worth_19 : decode cX2_worth 19 = .ok (.goto 4, 3) := dz1 (k := 19) (m := 3) dza0_cX2_worth_0 di_49 (Nat.zero_lt_succ _) rfl
theorem dX2_worth_22 : decode cX2_worth 22 = .ok (.iconst 0, 1) := dz1 (k := 22) (m := 1) dza0_cX2_worth_0 di_8 (Nat.zero_lt_succ _) rfl
theorem dX2_worth_23 : decode cX2_worth 23 = .ok (.iadd, 1) := dz1 (k := 23) (m := 1) dza0_cX2_worth_0 di_24 (Nat.zero_lt_succ _) rfl
theorem dX2_worth_24 : decode cX2_worth 24 = .ok (.ireturn, 1) := dz1 (k := 24) (m := 1) dza0_cX2_worth_0 di_13 (Nat.zero_lt_succ _) rfl
set_option maxRecDepth 100000 in
theorem dza0_cX3_init_0 : DzLies cX3_init (.mk ⟨[0x2a, 0xb7, 0x00, 0x01, 0xb1]⟩) 0 := dz_lies (m := 5) (Nat.zero_lt_succ _) rfl
theorem dX3_init_0 : decode cX3_init 0 = .ok (.aload_n 0, 1) := dz1 (k := 0) (m := 1) dza0_cX3_init_0 di_0 (Nat.zero_lt_succ _) rfl
theorem dX3_init_1 : decode cX3_init 1 = .ok (.invokespecial 1, 3) := dz1 (k := 1) (m := 3) dza0_cX3_init_0 di_1 (Nat.zero_lt_succ _) rfl
theorem dX3_init_4 : decode cX3_init 4 = .ok (.return_, 1) := dz1 (k := 4) (m := 1) dza0_cX3_init_0 di_2 (Nat.zero_lt_succ _) rfl
set_option maxRecDepth 100000 in
theorem dza0_cX3_lacks_0 : DzLies cX3_lacks (.mk ⟨[0x03, 0x05, 0x2a, 0x1b, 0xb6, 0x00, 0x07, 0x64, 0xb8, 0x00, 0x0d, 0x03, 0x05, 0x2a, 0x1b, 0xb6, 0x00, 0x13, 0x64, 0xb8, 0x00, 0x0d, 0x60, 0x3d, 0x1c, 0x2a, 0x1b, 0xb7, 0x00, 0x16, 0xb8, 0x00, 0x19]⟩) 0 := dz_lies (m := 33) (Nat.zero_lt_succ _) rfl
theorem dX3_lacks_0 : decode cX3_lacks 0 = .ok (.iconst 0, 1) := dz1 (k := 0) (m := 1) dza0_cX3_lacks_0 di_8 (Nat.zero_lt_succ _) rfl
theorem dX3_lacks_1 : decode cX3_lacks 1 = .ok (.iconst 2, 1) := dz1 (k := 1) (m := 1) dza0_cX3_lacks_0 di_6 (Nat.zero_lt_succ _) rfl
theorem dX3_lacks_2 : decode cX3_lacks 2 = .ok (.aload_n 0, 1) := dz1 (k := 2) (m := 1) dza0_cX3_lacks_0 di_0 (Nat.zero_lt_succ _) rfl
theorem dX3_lacks_3 : decode cX3_lacks 3 = .ok (.iload_n 1, 1) := dz1 (k := 3) (m := 1) dza0_cX3_lacks_0 di_11 (Nat.zero_lt_succ _) rfl
theorem dX3_lacks_4 : decode cX3_lacks 4 = .ok (.invokevirtual 7, 3) := dz1 (k := 4) (m := 3) dza0_cX3_lacks_0 di_74 (Nat.zero_lt_succ _) rfl
theorem dX3_lacks_7 : decode cX3_lacks 7 = .ok (.isub, 1) := dz1 (k := 7) (m := 1) dza0_cX3_lacks_0 di_14 (Nat.zero_lt_succ _) rfl
theorem dX3_lacks_8 : decode cX3_lacks 8 = .ok (.invokestatic 13, 3) := dz1 (k := 8) (m := 3) dza0_cX3_lacks_0 di_75 (Nat.zero_lt_succ _) rfl
theorem dX3_lacks_11 : decode cX3_lacks 11 = .ok (.iconst 0, 1) := dz1 (k := 11) (m := 1) dza0_cX3_lacks_0 di_8 (Nat.zero_lt_succ _) rfl
theorem dX3_lacks_12 : decode cX3_lacks 12 = .ok (.iconst 2, 1) := dz1 (k := 12) (m := 1) dza0_cX3_lacks_0 di_6 (Nat.zero_lt_succ _) rfl
theorem dX3_lacks_13 : decode cX3_lacks 13 = .ok (.aload_n 0, 1) := dz1 (k := 13) (m := 1) dza0_cX3_lacks_0 di_0 (Nat.zero_lt_succ _) rfl
theorem dX3_lacks_14 : decode cX3_lacks 14 = .ok (.iload_n 1, 1) := dz1 (k := 14) (m := 1) dza0_cX3_lacks_0 di_11 (Nat.zero_lt_succ _) rfl
theorem dX3_lacks_15 : decode cX3_lacks 15 = .ok (.invokevirtual 19, 3) := dz1 (k := 15) (m := 3) dza0_cX3_lacks_0 di_76 (Nat.zero_lt_succ _) rfl
theorem dX3_lacks_18 : decode cX3_lacks 18 = .ok (.isub, 1) := dz1 (k := 18) (m := 1) dza0_cX3_lacks_0 di_14 (Nat.zero_lt_succ _) rfl
theorem dX3_lacks_19 : decode cX3_lacks 19 = .ok (.invokestatic 13, 3) := dz1 (k := 19) (m := 3) dza0_cX3_lacks_0 di_75 (Nat.zero_lt_succ _) rfl
theorem dX3_lacks_22 : decode cX3_lacks 22 = .ok (.iadd, 1) := dz1 (k := 22) (m := 1) dza0_cX3_lacks_0 di_24 (Nat.zero_lt_succ _) rfl
theorem dX3_lacks_23 : decode cX3_lacks 23 = .ok (.istore_n 2, 1) := dz1 (k := 23) (m := 1) dza0_cX3_lacks_0 di_27 (Nat.zero_lt_succ _) rfl
theorem dX3_lacks_24 : decode cX3_lacks 24 = .ok (.iload_n 2, 1) := dz1 (k := 24) (m := 1) dza0_cX3_lacks_0 di_28 (Nat.zero_lt_succ _) rfl
theorem dX3_lacks_25 : decode cX3_lacks 25 = .ok (.aload_n 0, 1) := dz1 (k := 25) (m := 1) dza0_cX3_lacks_0 di_0 (Nat.zero_lt_succ _) rfl
theorem dX3_lacks_26 : decode cX3_lacks 26 = .ok (.iload_n 1, 1) := dz1 (k := 26) (m := 1) dza0_cX3_lacks_0 di_11 (Nat.zero_lt_succ _) rfl
theorem dX3_lacks_27 : decode cX3_lacks 27 = .ok (.invokespecial 22, 3) := dz1 (k := 27) (m := 3) dza0_cX3_lacks_0 di_77 (Nat.zero_lt_succ _) rfl
theorem dX3_lacks_30 : decode cX3_lacks 30 = .ok (.invokestatic 25, 3) := dz1 (k := 30) (m := 3) dza0_cX3_lacks_0 di_78 (Nat.zero_lt_succ _) rfl
set_option maxRecDepth 100000 in
theorem dza0_cX3_lacks_32 : DzLies cX3_lacks (.mk ⟨[0x19, 0xac]⟩) 32 := dz_lies (m := 2) (Nat.zero_lt_succ _) rfl
theorem dX3_lacks_33 : decode cX3_lacks 33 = .ok (.ireturn, 1) := dz1 (k := 1) (m := 1) dza0_cX3_lacks_32 di_13 (Nat.zero_lt_succ _) rfl
set_option maxRecDepth 100000 in
theorem dza0_cX3_linesOfTwo_0 : DzLies cX3_linesOfTwo (.mk ⟨[0x2a, 0x1b, 0xb6, 0x00, 0x07, 0x05, 0xa1, 0x00, 0x07, 0x04, 0xa7, 0x00, 0x04, 0x03, 0x2a, 0x1b, 0xb6, 0x00, 0x13, 0x05, 0xa1, 0x00, 0x07, 0x04, 0xa7, 0x00, 0x04, 0x03, 0x60, 0xac]⟩) 0 := dz_lies (m := 30) (Nat.zero_lt_succ _) rfl
theorem dX3_linesOfTwo_0 : decode cX3_linesOfTwo 0 = .ok (.aload_n 0, 1) := dz1 (k := 0) (m := 1) dza0_cX3_linesOfTwo_0 di_0 (Nat.zero_lt_succ _) rfl
theorem dX3_linesOfTwo_1 : decode cX3_linesOfTwo 1 = .ok (.iload_n 1, 1) := dz1 (k := 1) (m := 1) dza0_cX3_linesOfTwo_0 di_11 (Nat.zero_lt_succ _) rfl
theorem dX3_linesOfTwo_2 : decode cX3_linesOfTwo 2 = .ok (.invokevirtual 7, 3) := dz1 (k := 2) (m := 3) dza0_cX3_linesOfTwo_0 di_74 (Nat.zero_lt_succ _) rfl
theorem dX3_linesOfTwo_5 : decode cX3_linesOfTwo 5 = .ok (.iconst 2, 1) := dz1 (k := 5) (m := 1) dza0_cX3_linesOfTwo_0 di_6 (Nat.zero_lt_succ _) rfl
theorem dX3_linesOfTwo_6 : decode cX3_linesOfTwo 6 = .ok (.if_icmp .lt 7, 3) := dz1 (k := 6) (m := 3) dza0_cX3_linesOfTwo_0 di_79 (Nat.zero_lt_succ _) rfl
theorem dX3_linesOfTwo_9 : decode cX3_linesOfTwo 9 = .ok (.iconst 1, 1) := dz1 (k := 9) (m := 1) dza0_cX3_linesOfTwo_0 di_10 (Nat.zero_lt_succ _) rfl
theorem dX3_linesOfTwo_10 : decode cX3_linesOfTwo 10 = .ok (.goto 4, 3) := dz1 (k := 10) (m := 3) dza0_cX3_linesOfTwo_0 di_49 (Nat.zero_lt_succ _) rfl
theorem dX3_linesOfTwo_13 : decode cX3_linesOfTwo 13 = .ok (.iconst 0, 1) := dz1 (k := 13) (m := 1) dza0_cX3_linesOfTwo_0 di_8 (Nat.zero_lt_succ _) rfl
theorem dX3_linesOfTwo_14 : decode cX3_linesOfTwo 14 = .ok (.aload_n 0, 1) := dz1 (k := 14) (m := 1) dza0_cX3_linesOfTwo_0 di_0 (Nat.zero_lt_succ _) rfl
theorem dX3_linesOfTwo_15 : decode cX3_linesOfTwo 15 = .ok (.iload_n 1, 1) := dz1 (k := 15) (m := 1) dza0_cX3_linesOfTwo_0 di_11 (Nat.zero_lt_succ _) rfl
theorem dX3_linesOfTwo_16 : decode cX3_linesOfTwo 16 = .ok (.invokevirtual 19, 3) := dz1 (k := 16) (m := 3) dza0_cX3_linesOfTwo_0 di_76 (Nat.zero_lt_succ _) rfl
theorem dX3_linesOfTwo_19 : decode cX3_linesOfTwo 19 = .ok (.iconst 2, 1) := dz1 (k := 19) (m := 1) dza0_cX3_linesOfTwo_0 di_6 (Nat.zero_lt_succ _) rfl
theorem dX3_linesOfTwo_20 : decode cX3_linesOfTwo 20 = .ok (.if_icmp .lt 7, 3) := dz1 (k := 20) (m := 3) dza0_cX3_linesOfTwo_0 di_79 (Nat.zero_lt_succ _) rfl
theorem dX3_linesOfTwo_23 : decode cX3_linesOfTwo 23 = .ok (.iconst 1, 1) := dz1 (k := 23) (m := 1) dza0_cX3_linesOfTwo_0 di_10 (Nat.zero_lt_succ _) rfl
theorem dX3_linesOfTwo_24 : decode cX3_linesOfTwo 24 = .ok (.goto 4, 3) := dz1 (k := 24) (m := 3) dza0_cX3_linesOfTwo_0 di_49 (Nat.zero_lt_succ _) rfl
theorem dX3_linesOfTwo_27 : decode cX3_linesOfTwo 27 = .ok (.iconst 0, 1) := dz1 (k := 27) (m := 1) dza0_cX3_linesOfTwo_0 di_8 (Nat.zero_lt_succ _) rfl
theorem dX3_linesOfTwo_28 : decode cX3_linesOfTwo 28 = .ok (.iadd, 1) := dz1 (k := 28) (m := 1) dza0_cX3_linesOfTwo_0 di_24 (Nat.zero_lt_succ _) rfl
theorem dX3_linesOfTwo_29 : decode cX3_linesOfTwo 29 = .ok (.ireturn, 1) := dz1 (k := 29) (m := 1) dza0_cX3_linesOfTwo_0 di_13 (Nat.zero_lt_succ _) rfl
set_option maxRecDepth 100000 in
theorem dza0_cX4_init_0 : DzLies cX4_init (.mk ⟨[0x2a, 0xb7, 0x00, 0x01, 0xb1]⟩) 0 := dz_lies (m := 5) (Nat.zero_lt_succ _) rfl
theorem dX4_init_0 : decode cX4_init 0 = .ok (.aload_n 0, 1) := dz1 (k := 0) (m := 1) dza0_cX4_init_0 di_0 (Nat.zero_lt_succ _) rfl
theorem dX4_init_1 : decode cX4_init 1 = .ok (.invokespecial 1, 3) := dz1 (k := 1) (m := 3) dza0_cX4_init_0 di_1 (Nat.zero_lt_succ _) rfl
theorem dX4_init_4 : decode cX4_init 4 = .ok (.return_, 1) := dz1 (k := 4) (m := 1) dza0_cX4_init_0 di_2 (Nat.zero_lt_succ _) rfl
set_option maxRecDepth 100000 in
theorem dza0_cX4_heard_0 : DzLies cX4_heard (.mk ⟨[0x1c, 0x9a, 0x00, 0x07, 0x03, 0xa7, 0x00, 0x06, 0x04, 0x1c, 0x78, 0xac]⟩) 0 := dz_lies (m := 12) (Nat.zero_lt_succ _) rfl
theorem dX4_heard_0 : decode cX4_heard 0 = .ok (.iload_n 2, 1) := dz1 (k := 0) (m := 1) dza0_cX4_heard_0 di_28 (Nat.zero_lt_succ _) rfl
theorem dX4_heard_1 : decode cX4_heard 1 = .ok (.ifCond .ne 7, 3) := dz1 (k := 1) (m := 3) dza0_cX4_heard_0 di_37 (Nat.zero_lt_succ _) rfl
theorem dX4_heard_4 : decode cX4_heard 4 = .ok (.iconst 0, 1) := dz1 (k := 4) (m := 1) dza0_cX4_heard_0 di_8 (Nat.zero_lt_succ _) rfl
theorem dX4_heard_5 : decode cX4_heard 5 = .ok (.goto 6, 3) := dz1 (k := 5) (m := 3) dza0_cX4_heard_0 di_9 (Nat.zero_lt_succ _) rfl
theorem dX4_heard_8 : decode cX4_heard 8 = .ok (.iconst 1, 1) := dz1 (k := 8) (m := 1) dza0_cX4_heard_0 di_10 (Nat.zero_lt_succ _) rfl
theorem dX4_heard_9 : decode cX4_heard 9 = .ok (.iload_n 2, 1) := dz1 (k := 9) (m := 1) dza0_cX4_heard_0 di_28 (Nat.zero_lt_succ _) rfl
theorem dX4_heard_10 : decode cX4_heard 10 = .ok (.ishl, 1) := dz1 (k := 10) (m := 1) dza0_cX4_heard_0 di_12 (Nat.zero_lt_succ _) rfl
theorem dX4_heard_11 : decode cX4_heard 11 = .ok (.ireturn, 1) := dz1 (k := 11) (m := 1) dza0_cX4_heard_0 di_13 (Nat.zero_lt_succ _) rfl
set_option maxRecDepth 100000 in
theorem dza0_cX5_init_0 : DzLies cX5_init (.mk ⟨[0x2a, 0xb7, 0x00, 0x03, 0xb1]⟩) 0 := dz_lies (m := 5) (Nat.zero_lt_succ _) rfl
theorem dX5_init_0 : decode cX5_init 0 = .ok (.aload_n 0, 1) := dz1 (k := 0) (m := 1) dza0_cX5_init_0 di_0 (Nat.zero_lt_succ _) rfl
theorem dX5_init_1 : decode cX5_init 1 = .ok (.invokespecial 3, 3) := dz1 (k := 1) (m := 3) dza0_cX5_init_0 di_15 (Nat.zero_lt_succ _) rfl
theorem dX5_init_4 : decode cX5_init 4 = .ok (.return_, 1) := dz1 (k := 4) (m := 1) dza0_cX5_init_0 di_2 (Nat.zero_lt_succ _) rfl
set_option maxRecDepth 100000 in
theorem dza0_cX5_heard_0 : DzLies cX5_heard (.mk ⟨[0x04, 0x1b, 0x78, 0xac]⟩) 0 := dz_lies (m := 4) (Nat.zero_lt_succ _) rfl
theorem dX5_heard_0 : decode cX5_heard 0 = .ok (.iconst 1, 1) := dz1 (k := 0) (m := 1) dza0_cX5_heard_0 di_10 (Nat.zero_lt_succ _) rfl
theorem dX5_heard_1 : decode cX5_heard 1 = .ok (.iload_n 1, 1) := dz1 (k := 1) (m := 1) dza0_cX5_heard_0 di_11 (Nat.zero_lt_succ _) rfl
theorem dX5_heard_2 : decode cX5_heard 2 = .ok (.ishl, 1) := dz1 (k := 2) (m := 1) dza0_cX5_heard_0 di_12 (Nat.zero_lt_succ _) rfl
theorem dX5_heard_3 : decode cX5_heard 3 = .ok (.ireturn, 1) := dz1 (k := 3) (m := 1) dza0_cX5_heard_0 di_13 (Nat.zero_lt_succ _) rfl
set_option maxRecDepth 100000 in
theorem dza0_cX5_lacks_0 : DzLies cX5_lacks (.mk ⟨[0x06, 0x2a, 0x1b, 0xb6, 0x00, 0x09, 0x64, 0x06, 0x2a, 0x1b, 0xb6, 0x00, 0x0f, 0x64, 0xb8, 0x00, 0x12, 0xac]⟩) 0 := dz_lies (m := 18) (Nat.zero_lt_succ _) rfl
theorem dX5_lacks_0 : decode cX5_lacks 0 = .ok (.iconst 3, 1) := dz1 (k := 0) (m := 1) dza0_cX5_lacks_0 di_4 (Nat.zero_lt_succ _) rfl
theorem dX5_lacks_1 : decode cX5_lacks 1 = .ok (.aload_n 0, 1) := dz1 (k := 1) (m := 1) dza0_cX5_lacks_0 di_0 (Nat.zero_lt_succ _) rfl
theorem dX5_lacks_2 : decode cX5_lacks 2 = .ok (.iload_n 1, 1) := dz1 (k := 2) (m := 1) dza0_cX5_lacks_0 di_11 (Nat.zero_lt_succ _) rfl
theorem dX5_lacks_3 : decode cX5_lacks 3 = .ok (.invokevirtual 9, 3) := dz1 (k := 3) (m := 3) dza0_cX5_lacks_0 di_80 (Nat.zero_lt_succ _) rfl
theorem dX5_lacks_6 : decode cX5_lacks 6 = .ok (.isub, 1) := dz1 (k := 6) (m := 1) dza0_cX5_lacks_0 di_14 (Nat.zero_lt_succ _) rfl
theorem dX5_lacks_7 : decode cX5_lacks 7 = .ok (.iconst 3, 1) := dz1 (k := 7) (m := 1) dza0_cX5_lacks_0 di_4 (Nat.zero_lt_succ _) rfl
theorem dX5_lacks_8 : decode cX5_lacks 8 = .ok (.aload_n 0, 1) := dz1 (k := 8) (m := 1) dza0_cX5_lacks_0 di_0 (Nat.zero_lt_succ _) rfl
theorem dX5_lacks_9 : decode cX5_lacks 9 = .ok (.iload_n 1, 1) := dz1 (k := 9) (m := 1) dza0_cX5_lacks_0 di_11 (Nat.zero_lt_succ _) rfl
theorem dX5_lacks_10 : decode cX5_lacks 10 = .ok (.invokevirtual 15, 3) := dz1 (k := 10) (m := 3) dza0_cX5_lacks_0 di_81 (Nat.zero_lt_succ _) rfl
theorem dX5_lacks_13 : decode cX5_lacks 13 = .ok (.isub, 1) := dz1 (k := 13) (m := 1) dza0_cX5_lacks_0 di_14 (Nat.zero_lt_succ _) rfl
theorem dX5_lacks_14 : decode cX5_lacks 14 = .ok (.invokestatic 18, 3) := dz1 (k := 14) (m := 3) dza0_cX5_lacks_0 di_82 (Nat.zero_lt_succ _) rfl
theorem dX5_lacks_17 : decode cX5_lacks 17 = .ok (.ireturn, 1) := dz1 (k := 17) (m := 1) dza0_cX5_lacks_0 di_13 (Nat.zero_lt_succ _) rfl
set_option maxRecDepth 100000 in
theorem dza0_cX5_inUpper_0 : DzLies cX5_inUpper (.mk ⟨[0x1b, 0x10, 0x07, 0x7e, 0xb8, 0x00, 0x18, 0xac]⟩) 0 := dz_lies (m := 8) (Nat.zero_lt_succ _) rfl
theorem dX5_inUpper_0 : decode cX5_inUpper 0 = .ok (.iload_n 1, 1) := dz1 (k := 0) (m := 1) dza0_cX5_inUpper_0 di_11 (Nat.zero_lt_succ _) rfl
theorem dX5_inUpper_1 : decode cX5_inUpper 1 = .ok (.bipush 7, 2) := dz1 (k := 1) (m := 2) dza0_cX5_inUpper_0 di_83 (Nat.zero_lt_succ _) rfl
theorem dX5_inUpper_3 : decode cX5_inUpper 3 = .ok (.iand, 1) := dz1 (k := 3) (m := 1) dza0_cX5_inUpper_0 di_48 (Nat.zero_lt_succ _) rfl
theorem dX5_inUpper_4 : decode cX5_inUpper 4 = .ok (.invokestatic 24, 3) := dz1 (k := 4) (m := 3) dza0_cX5_inUpper_0 di_84 (Nat.zero_lt_succ _) rfl
theorem dX5_inUpper_7 : decode cX5_inUpper 7 = .ok (.ireturn, 1) := dz1 (k := 7) (m := 1) dza0_cX5_inUpper_0 di_13 (Nat.zero_lt_succ _) rfl
set_option maxRecDepth 100000 in
theorem dza0_cX5_inLower_0 : DzLies cX5_inLower (.mk ⟨[0x1b, 0x10, 0x38, 0x7e, 0xb8, 0x00, 0x18, 0xac]⟩) 0 := dz_lies (m := 8) (Nat.zero_lt_succ _) rfl
theorem dX5_inLower_0 : decode cX5_inLower 0 = .ok (.iload_n 1, 1) := dz1 (k := 0) (m := 1) dza0_cX5_inLower_0 di_11 (Nat.zero_lt_succ _) rfl
theorem dX5_inLower_1 : decode cX5_inLower 1 = .ok (.bipush 56, 2) := dz1 (k := 1) (m := 2) dza0_cX5_inLower_0 di_85 (Nat.zero_lt_succ _) rfl
theorem dX5_inLower_3 : decode cX5_inLower 3 = .ok (.iand, 1) := dz1 (k := 3) (m := 1) dza0_cX5_inLower_0 di_48 (Nat.zero_lt_succ _) rfl
theorem dX5_inLower_4 : decode cX5_inLower 4 = .ok (.invokestatic 24, 3) := dz1 (k := 4) (m := 3) dza0_cX5_inLower_0 di_84 (Nat.zero_lt_succ _) rfl
theorem dX5_inLower_7 : decode cX5_inLower 7 = .ok (.ireturn, 1) := dz1 (k := 7) (m := 1) dza0_cX5_inLower_0 di_13 (Nat.zero_lt_succ _) rfl
set_option maxRecDepth 100000 in
theorem dza0_cX6_init_0 : DzLies cX6_init (.mk ⟨[0x2a, 0xb7, 0x00, 0x03, 0x2a, 0x07, 0xbc, 0x0a, 0xb5, 0x00, 0x09, 0x2a, 0x07, 0x10, 0x06, 0xc5, 0x00, 0x0f, 0x02, 0xb5, 0x00, 0x11, 0xb1]⟩) 0 := dz_lies (m := 23) (Nat.zero_lt_succ _) rfl
theorem dX6_init_0 : decode cX6_init 0 = .ok (.aload_n 0, 1) := dz1 (k := 0) (m := 1) dza0_cX6_init_0 di_0 (Nat.zero_lt_succ _) rfl
theorem dX6_init_1 : decode cX6_init 1 = .ok (.invokespecial 3, 3) := dz1 (k := 1) (m := 3) dza0_cX6_init_0 di_15 (Nat.zero_lt_succ _) rfl
theorem dX6_init_4 : decode cX6_init 4 = .ok (.aload_n 0, 1) := dz1 (k := 4) (m := 1) dza0_cX6_init_0 di_0 (Nat.zero_lt_succ _) rfl
theorem dX6_init_5 : decode cX6_init 5 = .ok (.iconst 4, 1) := dz1 (k := 5) (m := 1) dza0_cX6_init_0 di_33 (Nat.zero_lt_succ _) rfl
theorem dX6_init_6 : decode cX6_init 6 = .ok (.newarray .int, 2) := dz1 (k := 6) (m := 2) dza0_cX6_init_0 di_17 (Nat.zero_lt_succ _) rfl
theorem dX6_init_8 : decode cX6_init 8 = .ok (.putfield 9, 3) := dz1 (k := 8) (m := 3) dza0_cX6_init_0 di_18 (Nat.zero_lt_succ _) rfl
theorem dX6_init_11 : decode cX6_init 11 = .ok (.aload_n 0, 1) := dz1 (k := 11) (m := 1) dza0_cX6_init_0 di_0 (Nat.zero_lt_succ _) rfl
theorem dX6_init_12 : decode cX6_init 12 = .ok (.iconst 4, 1) := dz1 (k := 12) (m := 1) dza0_cX6_init_0 di_33 (Nat.zero_lt_succ _) rfl
theorem dX6_init_13 : decode cX6_init 13 = .ok (.bipush 6, 2) := dz1 (k := 13) (m := 2) dza0_cX6_init_0 di_86 (Nat.zero_lt_succ _) rfl
theorem dX6_init_15 : decode cX6_init 15 = .ok (.multianewarray 15 2, 4) := dz1 (k := 15) (m := 4) dza0_cX6_init_0 di_87 (Nat.zero_lt_succ _) rfl
theorem dX6_init_19 : decode cX6_init 19 = .ok (.putfield 17, 3) := dz1 (k := 19) (m := 3) dza0_cX6_init_0 di_88 (Nat.zero_lt_succ _) rfl
theorem dX6_init_22 : decode cX6_init 22 = .ok (.return_, 1) := dz1 (k := 22) (m := 1) dza0_cX6_init_0 di_2 (Nat.zero_lt_succ _) rfl
set_option maxRecDepth 100000 in
theorem dza0_cX6_read_0 : DzLies cX6_read (.mk ⟨[0x2a, 0x03, 0xb5, 0x00, 0x14, 0x03, 0x3e, 0x1d, 0x1c, 0xa2, 0x00, 0x58, 0x2b, 0x1d, 0x33, 0x10, 0x20, 0xa0, 0x00, 0x09, 0x84, 0x03, 0x01, 0xa7, 0xff, 0xf0, 0x2b, 0x1d, 0x33, 0xb8, 0x00, 0x18]⟩) 0 := dz_lies (m := 32) (Nat.zero_lt_succ _) rfl
theorem dX6_read_0 : decode cX6_read 0 = .ok (.aload_n 0, 1) := dz1 (k := 0) (m := 1) dza0_cX6_read_0 di_0 (Nat.zero_lt_succ _) rfl
theorem dX6_read_1 : decode cX6_read 1 = .ok (.iconst 0, 1) := dz1 (k := 1) (m := 1) dza0_cX6_read_0 di_8 (Nat.zero_lt_succ _) rfl
theorem dX6_read_2 : decode cX6_read 2 = .ok (.putfield 20, 3) := dz1 (k := 2) (m := 3) dza0_cX6_read_0 di_89 (Nat.zero_lt_succ _) rfl
theorem dX6_read_5 : decode cX6_read 5 = .ok (.iconst 0, 1) := dz1 (k := 5) (m := 1) dza0_cX6_read_0 di_8 (Nat.zero_lt_succ _) rfl
theorem dX6_read_6 : decode cX6_read 6 = .ok (.istore_n 3, 1) := dz1 (k := 6) (m := 1) dza0_cX6_read_0 di_50 (Nat.zero_lt_succ _) rfl
theorem dX6_read_7 : decode cX6_read 7 = .ok (.iload_n 3, 1) := dz1 (k := 7) (m := 1) dza0_cX6_read_0 di_3 (Nat.zero_lt_succ _) rfl
theorem dX6_read_8 : decode cX6_read 8 = .ok (.iload_n 2, 1) := dz1 (k := 8) (m := 1) dza0_cX6_read_0 di_28 (Nat.zero_lt_succ _) rfl
theorem dX6_read_9 : decode cX6_read 9 = .ok (.if_icmp .ge 88, 3) := dz1 (k := 9) (m := 3) dza0_cX6_read_0 di_90 (Nat.zero_lt_succ _) rfl
theorem dX6_read_12 : decode cX6_read 12 = .ok (.aload_n 1, 1) := dz1 (k := 12) (m := 1) dza0_cX6_read_0 di_26 (Nat.zero_lt_succ _) rfl
theorem dX6_read_13 : decode cX6_read 13 = .ok (.iload_n 3, 1) := dz1 (k := 13) (m := 1) dza0_cX6_read_0 di_3 (Nat.zero_lt_succ _) rfl
theorem dX6_read_14 : decode cX6_read 14 = .ok (.baload, 1) := dz1 (k := 14) (m := 1) dza0_cX6_read_0 di_91 (Nat.zero_lt_succ _) rfl
theorem dX6_read_15 : decode cX6_read 15 = .ok (.bipush 32, 2) := dz1 (k := 15) (m := 2) dza0_cX6_read_0 di_92 (Nat.zero_lt_succ _) rfl
theorem dX6_read_17 : decode cX6_read 17 = .ok (.if_icmp .ne 9, 3) := dz1 (k := 17) (m := 3) dza0_cX6_read_0 di_93 (Nat.zero_lt_succ _) rfl
theorem dX6_read_20 : decode cX6_read 20 = .ok (.iinc 3 1, 3) := dz1 (k := 20) (m := 3) dza0_cX6_read_0 di_94 (Nat.zero_lt_succ _) rfl
theorem dX6_read_23 : decode cX6_read 23 = .ok (.goto (-16), 3) := dz1 (k := 23) (m := 3) dza0_cX6_read_0 di_95 (Nat.zero_lt_succ _) rfl
theorem dX6_read_26 : decode cX6_read 26 = .ok (.aload_n 1, 1) := dz1 (k := 26) (m := 1) dza0_cX6_read_0 di_26 (Nat.zero_lt_succ _) rfl
theorem dX6_read_27 : decode cX6_read 27 = .ok (.iload_n 3, 1) := dz1 (k := 27) (m := 1) dza0_cX6_read_0 di_3 (Nat.zero_lt_succ _) rfl
theorem dX6_read_28 : decode cX6_read 28 = .ok (.baload, 1) := dz1 (k := 28) (m := 1) dza0_cX6_read_0 di_91 (Nat.zero_lt_succ _) rfl
theorem dX6_read_29 : decode cX6_read 29 = .ok (.invokestatic 24, 3) := dz1 (k := 29) (m := 3) dza0_cX6_read_0 di_84 (Nat.zero_lt_succ _) rfl
set_option maxRecDepth 100000 in
theorem dza0_cX6_read_32 : DzLies cX6_read (.mk ⟨[0x36, 0x04, 0x15, 0x04, 0x9b, 0x00, 0x0b, 0x2a, 0xb4, 0x00, 0x14, 0x07, 0xa1, 0x00, 0x05, 0x1d, 0xac, 0x2a, 0x2b, 0x1c, 0x1d, 0x04, 0x60, 0xb6, 0x00, 0x1c, 0x36, 0x05, 0x15, 0x05, 0x10, 0xf7]⟩) 32 := dz_lies (m := 32) (Nat.zero_lt_succ _) rfl
theorem dX6_read_32 : decode cX6_read 32 = .ok (.istore 4, 2) := dz1 (k := 0) (m := 2) dza0_cX6_read_32 di_51 (Nat.zero_lt_succ _) rfl
theorem dX6_read_34 : decode cX6_read 34 = .ok (.iload 4, 2) := dz1 (k := 2) (m := 2) dza0_cX6_read_32 di_52 (Nat.zero_lt_succ _) rfl
theorem dX6_read_36 : decode cX6_read 36 = .ok (.ifCond .lt 11, 3) := dz1 (k := 4) (m := 3) dza0_cX6_read_32 di_96 (Nat.zero_lt_succ _) rfl
theorem dX6_read_39 : decode cX6_read 39 = .ok (.aload_n 0, 1) := dz1 (k := 7) (m := 1) dza0_cX6_read_32 di_0 (Nat.zero_lt_succ _) rfl
theorem dX6_read_40 : decode cX6_read 40 = .ok (.getfield 20, 3) := dz1 (k := 8) (m := 3) dza0_cX6_read_32 di_97 (Nat.zero_lt_succ _) rfl
theorem dX6_read_43 : decode cX6_read 43 = .ok (.iconst 4, 1) := dz1 (k := 11) (m := 1) dza0_cX6_read_32 di_33 (Nat.zero_lt_succ _) rfl
theorem dX6_read_44 : decode cX6_read 44 = .ok (.if_icmp .lt 5, 3) := dz1 (k := 12) (m := 3) dza0_cX6_read_32 di_98 (Nat.zero_lt_succ _) rfl
theorem dX6_read_47 : decode cX6_read 47 = .ok (.iload_n 3, 1) := dz1 (k := 15) (m := 1) dza0_cX6_read_32 di_3 (Nat.zero_lt_succ _) rfl
theorem dX6_read_48 : decode cX6_read 48 = .ok (.ireturn, 1) := dz1 (k := 16) (m := 1) dza0_cX6_read_32 di_13 (Nat.zero_lt_succ _) rfl
theorem dX6_read_49 : decode cX6_read 49 = .ok (.aload_n 0, 1) := dz1 (k := 17) (m := 1) dza0_cX6_read_32 di_0 (Nat.zero_lt_succ _) rfl
theorem dX6_read_50 : decode cX6_read 50 = .ok (.aload_n 1, 1) := dz1 (k := 18) (m := 1) dza0_cX6_read_32 di_26 (Nat.zero_lt_succ _) rfl
theorem dX6_read_51 : decode cX6_read 51 = .ok (.iload_n 2, 1) := dz1 (k := 19) (m := 1) dza0_cX6_read_32 di_28 (Nat.zero_lt_succ _) rfl
theorem dX6_read_52 : decode cX6_read 52 = .ok (.iload_n 3, 1) := dz1 (k := 20) (m := 1) dza0_cX6_read_32 di_3 (Nat.zero_lt_succ _) rfl
theorem dX6_read_53 : decode cX6_read 53 = .ok (.iconst 1, 1) := dz1 (k := 21) (m := 1) dza0_cX6_read_32 di_10 (Nat.zero_lt_succ _) rfl
theorem dX6_read_54 : decode cX6_read 54 = .ok (.iadd, 1) := dz1 (k := 22) (m := 1) dza0_cX6_read_32 di_24 (Nat.zero_lt_succ _) rfl
theorem dX6_read_55 : decode cX6_read 55 = .ok (.invokevirtual 28, 3) := dz1 (k := 23) (m := 3) dza0_cX6_read_32 di_99 (Nat.zero_lt_succ _) rfl
theorem dX6_read_58 : decode cX6_read 58 = .ok (.istore 5, 2) := dz1 (k := 26) (m := 2) dza0_cX6_read_32 di_100 (Nat.zero_lt_succ _) rfl
theorem dX6_read_60 : decode cX6_read 60 = .ok (.iload 5, 2) := dz1 (k := 28) (m := 2) dza0_cX6_read_32 di_101 (Nat.zero_lt_succ _) rfl
theorem dX6_read_62 : decode cX6_read 62 = .ok (.bipush (-9), 2) := dz1 (k := 30) (m := 2) dza0_cX6_read_32 di_102 (Nat.zero_lt_succ _) rfl
set_option maxRecDepth 100000 in
theorem dza0_cX6_read_64 : DzLies cX6_read (.mk ⟨[0x9f, 0x00, 0x06, 0x15, 0x05, 0xac, 0x2a, 0xb4, 0x00, 0x09, 0x2a, 0xb4, 0x00, 0x14, 0x15, 0x04, 0x4f, 0x2a, 0x59, 0xb4, 0x00, 0x14, 0x04, 0x60, 0xb5, 0x00, 0x14, 0x84, 0x03, 0x0d, 0xa7, 0xff, 0xa9]⟩) 64 := dz_lies (m := 33) (Nat.zero_lt_succ _) rfl
theorem dX6_read_64 : decode cX6_read 64 = .ok (.if_icmp .eq 6, 3) := dz1 (k := 0) (m := 3) dza0_cX6_read_64 di_103 (Nat.zero_lt_succ _) rfl
theorem dX6_read_67 : decode cX6_read 67 = .ok (.iload 5, 2) := dz1 (k := 3) (m := 2) dza0_cX6_read_64 di_101 (Nat.zero_lt_succ _) rfl
theorem dX6_read_69 : decode cX6_read 69 = .ok (.ireturn, 1) := dz1 (k := 5) (m := 1) dza0_cX6_read_64 di_13 (Nat.zero_lt_succ _) rfl
theorem dX6_read_70 : decode cX6_read 70 = .ok (.aload_n 0, 1) := dz1 (k := 6) (m := 1) dza0_cX6_read_64 di_0 (Nat.zero_lt_succ _) rfl
theorem dX6_read_71 : decode cX6_read 71 = .ok (.getfield 9, 3) := dz1 (k := 7) (m := 3) dza0_cX6_read_64 di_21 (Nat.zero_lt_succ _) rfl
theorem dX6_read_74 : decode cX6_read 74 = .ok (.aload_n 0, 1) := dz1 (k := 10) (m := 1) dza0_cX6_read_64 di_0 (Nat.zero_lt_succ _) rfl
theorem dX6_read_75 : decode cX6_read 75 = .ok (.getfield 20, 3) := dz1 (k := 11) (m := 3) dza0_cX6_read_64 di_97 (Nat.zero_lt_succ _) rfl
theorem dX6_read_78 : decode cX6_read 78 = .ok (.iload 4, 2) := dz1 (k := 14) (m := 2) dza0_cX6_read_64 di_52 (Nat.zero_lt_succ _) rfl
theorem dX6_read_80 : decode cX6_read 80 = .ok (.iastore, 1) := dz1 (k := 16) (m := 1) dza0_cX6_read_64 di_22 (Nat.zero_lt_succ _) rfl
theorem dX6_read_81 : decode cX6_read 81 = .ok (.aload_n 0, 1) := dz1 (k := 17) (m := 1) dza0_cX6_read_64 di_0 (Nat.zero_lt_succ _) rfl
theorem dX6_read_82 : decode cX6_read 82 = .ok (.dup, 1) := dz1 (k := 18) (m := 1) dza0_cX6_read_64 di_23 (Nat.zero_lt_succ _) rfl
theorem dX6_read_83 : decode cX6_read 83 = .ok (.getfield 20, 3) := dz1 (k := 19) (m := 3) dza0_cX6_read_64 di_97 (Nat.zero_lt_succ _) rfl
theorem dX6_read_86 : decode cX6_read 86 = .ok (.iconst 1, 1) := dz1 (k := 22) (m := 1) dza0_cX6_read_64 di_10 (Nat.zero_lt_succ _) rfl
theorem dX6_read_87 : decode cX6_read 87 = .ok (.iadd, 1) := dz1 (k := 23) (m := 1) dza0_cX6_read_64 di_24 (Nat.zero_lt_succ _) rfl
theorem dX6_read_88 : decode cX6_read 88 = .ok (.putfield 20, 3) := dz1 (k := 24) (m := 3) dza0_cX6_read_64 di_89 (Nat.zero_lt_succ _) rfl
theorem dX6_read_91 : decode cX6_read 91 = .ok (.iinc 3 13, 3) := dz1 (k := 27) (m := 3) dza0_cX6_read_64 di_104 (Nat.zero_lt_succ _) rfl
theorem dX6_read_94 : decode cX6_read 94 = .ok (.goto (-87), 3) := dz1 (k := 30) (m := 3) dza0_cX6_read_64 di_105 (Nat.zero_lt_succ _) rfl
set_option maxRecDepth 100000 in
theorem dza0_cX6_read_96 : DzLies cX6_read (.mk ⟨[0xa9, 0x2a, 0xb4, 0x00, 0x14, 0x9a, 0x00, 0x07, 0x1c, 0xa7, 0x00, 0x05, 0x10, 0xf7, 0xac]⟩) 96 := dz_lies (m := 15) (Nat.zero_lt_succ _) rfl
theorem dX6_read_97 : decode cX6_read 97 = .ok (.aload_n 0, 1) := dz1 (k := 1) (m := 1) dza0_cX6_read_96 di_0 (Nat.zero_lt_succ _) rfl
theorem dX6_read_98 : decode cX6_read 98 = .ok (.getfield 20, 3) := dz1 (k := 2) (m := 3) dza0_cX6_read_96 di_97 (Nat.zero_lt_succ _) rfl
theorem dX6_read_101 : decode cX6_read 101 = .ok (.ifCond .ne 7, 3) := dz1 (k := 5) (m := 3) dza0_cX6_read_96 di_37 (Nat.zero_lt_succ _) rfl
theorem dX6_read_104 : decode cX6_read 104 = .ok (.iload_n 2, 1) := dz1 (k := 8) (m := 1) dza0_cX6_read_96 di_28 (Nat.zero_lt_succ _) rfl
theorem dX6_read_105 : decode cX6_read 105 = .ok (.goto 5, 3) := dz1 (k := 9) (m := 3) dza0_cX6_read_96 di_106 (Nat.zero_lt_succ _) rfl
theorem dX6_read_108 : decode cX6_read 108 = .ok (.bipush (-9), 2) := dz1 (k := 12) (m := 2) dza0_cX6_read_96 di_102 (Nat.zero_lt_succ _) rfl
theorem dX6_read_110 : decode cX6_read 110 = .ok (.ireturn, 1) := dz1 (k := 14) (m := 1) dza0_cX6_read_96 di_13 (Nat.zero_lt_succ _) rfl
set_option maxRecDepth 100000 in
theorem dza0_cX6_kindBy_0 : DzLies cX6_kindBy (.mk ⟨[0x03, 0x3c, 0x1b, 0x10, 0x06, 0xa2, 0x00, 0x14, 0xb2, 0x00, 0x20, 0x1b, 0x2e, 0x1a, 0xa0, 0x00, 0x05, 0x1b, 0xac, 0x84, 0x01, 0x01, 0xa7, 0xff, 0xec, 0x02, 0xac]⟩) 0 := dz_lies (m := 27) (Nat.zero_lt_succ _) rfl
theorem dX6_kindBy_0 : decode cX6_kindBy 0 = .ok (.iconst 0, 1) := dz1 (k := 0) (m := 1) dza0_cX6_kindBy_0 di_8 (Nat.zero_lt_succ _) rfl
theorem dX6_kindBy_1 : decode cX6_kindBy 1 = .ok (.istore_n 1, 1) := dz1 (k := 1) (m := 1) dza0_cX6_kindBy_0 di_68 (Nat.zero_lt_succ _) rfl
theorem dX6_kindBy_2 : decode cX6_kindBy 2 = .ok (.iload_n 1, 1) := dz1 (k := 2) (m := 1) dza0_cX6_kindBy_0 di_11 (Nat.zero_lt_succ _) rfl
theorem dX6_kindBy_3 : decode cX6_kindBy 3 = .ok (.bipush 6, 2) := dz1 (k := 3) (m := 2) dza0_cX6_kindBy_0 di_86 (Nat.zero_lt_succ _) rfl
theorem dX6_kindBy_5 : decode cX6_kindBy 5 = .ok (.if_icmp .ge 20, 3) := dz1 (k := 5) (m := 3) dza0_cX6_kindBy_0 di_107 (Nat.zero_lt_succ _) rfl
theorem dX6_kindBy_8 : decode cX6_kindBy 8 = .ok (.getstatic 32, 3) := dz1 (k := 8) (m := 3) dza0_cX6_kindBy_0 di_108 (Nat.zero_lt_succ _) rfl
theorem dX6_kindBy_11 : decode cX6_kindBy 11 = .ok (.iload_n 1, 1) := dz1 (k := 11) (m := 1) dza0_cX6_kindBy_0 di_11 (Nat.zero_lt_succ _) rfl
theorem dX6_kindBy_12 : decode cX6_kindBy 12 = .ok (.iaload, 1) := dz1 (k := 12) (m := 1) dza0_cX6_kindBy_0 di_30 (Nat.zero_lt_succ _) rfl
theorem dX6_kindBy_13 : decode cX6_kindBy 13 = .ok (.iload_n 0, 1) := dz1 (k := 13) (m := 1) dza0_cX6_kindBy_0 di_109 (Nat.zero_lt_succ _) rfl
theorem dX6_kindBy_14 : decode cX6_kindBy 14 = .ok (.if_icmp .ne 5, 3) := dz1 (k := 14) (m := 3) dza0_cX6_kindBy_0 di_110 (Nat.zero_lt_succ _) rfl
theorem dX6_kindBy_17 : decode cX6_kindBy 17 = .ok (.iload_n 1, 1) := dz1 (k := 17) (m := 1) dza0_cX6_kindBy_0 di_11 (Nat.zero_lt_succ _) rfl
theorem dX6_kindBy_18 : decode cX6_kindBy 18 = .ok (.ireturn, 1) := dz1 (k := 18) (m := 1) dza0_cX6_kindBy_0 di_13 (Nat.zero_lt_succ _) rfl
theorem dX6_kindBy_19 : decode cX6_kindBy 19 = .ok (.iinc 1 1, 3) := dz1 (k := 19) (m := 3) dza0_cX6_kindBy_0 di_111 (Nat.zero_lt_succ _) rfl
theorem dX6_kindBy_22 : decode cX6_kindBy 22 = .ok (.goto (-20), 3) := dz1 (k := 22) (m := 3) dza0_cX6_kindBy_0 di_42 (Nat.zero_lt_succ _) rfl
theorem dX6_kindBy_25 : decode cX6_kindBy 25 = .ok (.iconst (-1), 1) := dz1 (k := 25) (m := 1) dza0_cX6_kindBy_0 di_65 (Nat.zero_lt_succ _) rfl
theorem dX6_kindBy_26 : decode cX6_kindBy 26 = .ok (.ireturn, 1) := dz1 (k := 26) (m := 1) dza0_cX6_kindBy_0 di_13 (Nat.zero_lt_succ _) rfl
set_option maxRecDepth 100000 in
theorem dza0_cX6_readCard_0 : DzLies cX6_readCard (.mk ⟨[0x03, 0x36, 0x04, 0x03, 0x36, 0x05, 0x15, 0x05, 0x10, 0x06, 0xa2, 0x00, 0x89, 0x1d, 0x05, 0x15, 0x05, 0x68, 0x60, 0x36, 0x06, 0x15, 0x06, 0x36, 0x07, 0x15, 0x07, 0x15, 0x06, 0x04, 0x60, 0xa3, 0x00, 0x26]⟩) 0 := dz_lies (m := 34) (Nat.zero_lt_succ _) rfl
theorem dX6_readCard_0 : decode cX6_readCard 0 = .ok (.iconst 0, 1) := dz1 (k := 0) (m := 1) dza0_cX6_readCard_0 di_8 (Nat.zero_lt_succ _) rfl
theorem dX6_readCard_1 : decode cX6_readCard 1 = .ok (.istore 4, 2) := dz1 (k := 1) (m := 2) dza0_cX6_readCard_0 di_51 (Nat.zero_lt_succ _) rfl
theorem dX6_readCard_3 : decode cX6_readCard 3 = .ok (.iconst 0, 1) := dz1 (k := 3) (m := 1) dza0_cX6_readCard_0 di_8 (Nat.zero_lt_succ _) rfl
theorem dX6_readCard_4 : decode cX6_readCard 4 = .ok (.istore 5, 2) := dz1 (k := 4) (m := 2) dza0_cX6_readCard_0 di_100 (Nat.zero_lt_succ _) rfl
theorem dX6_readCard_6 : decode cX6_readCard 6 = .ok (.iload 5, 2) := dz1 (k := 6) (m := 2) dza0_cX6_readCard_0 di_101 (Nat.zero_lt_succ _) rfl
theorem dX6_readCard_8 : decode cX6_readCard 8 = .ok (.bipush 6, 2) := dz1 (k := 8) (m := 2) dza0_cX6_readCard_0 di_86 (Nat.zero_lt_succ _) rfl
theorem dX6_readCard_10 : decode cX6_readCard 10 = .ok (.if_icmp .ge 137, 3) := dz1 (k := 10) (m := 3) dza0_cX6_readCard_0 di_112 (Nat.zero_lt_succ _) rfl
theorem dX6_readCard_13 : decode cX6_readCard 13 = .ok (.iload_n 3, 1) := dz1 (k := 13) (m := 1) dza0_cX6_readCard_0 di_3 (Nat.zero_lt_succ _) rfl
theorem dX6_readCard_14 : decode cX6_readCard 14 = .ok (.iconst 2, 1) := dz1 (k := 14) (m := 1) dza0_cX6_readCard_0 di_6 (Nat.zero_lt_succ _) rfl
theorem dX6_readCard_15 : decode cX6_readCard 15 = .ok (.iload 5, 2) := dz1 (k := 15) (m := 2) dza0_cX6_readCard_0 di_101 (Nat.zero_lt_succ _) rfl
theorem dX6_readCard_17 : decode cX6_readCard 17 = .ok (.imul, 1) := dz1 (k := 17) (m := 1) dza0_cX6_readCard_0 di_113 (Nat.zero_lt_succ _) rfl
theorem dX6_readCard_18 : decode cX6_readCard 18 = .ok (.iadd, 1) := dz1 (k := 18) (m := 1) dza0_cX6_readCard_0 di_24 (Nat.zero_lt_succ _) rfl
theorem dX6_readCard_19 : decode cX6_readCard 19 = .ok (.istore 6, 2) := dz1 (k := 19) (m := 2) dza0_cX6_readCard_0 di_114 (Nat.zero_lt_succ _) rfl
theorem dX6_readCard_21 : decode cX6_readCard 21 = .ok (.iload 6, 2) := dz1 (k := 21) (m := 2) dza0_cX6_readCard_0 di_115 (Nat.zero_lt_succ _) rfl
theorem dX6_readCard_23 : decode cX6_readCard 23 = .ok (.istore 7, 2) := dz1 (k := 23) (m := 2) dza0_cX6_readCard_0 di_116 (Nat.zero_lt_succ _) rfl
theorem dX6_readCard_25 : decode cX6_readCard 25 = .ok (.iload 7, 2) := dz1 (k := 25) (m := 2) dza0_cX6_readCard_0 di_117 (Nat.zero_lt_succ _) rfl
theorem dX6_readCard_27 : decode cX6_readCard 27 = .ok (.iload 6, 2) := dz1 (k := 27) (m := 2) dza0_cX6_readCard_0 di_115 (Nat.zero_lt_succ _) rfl
theorem dX6_readCard_29 : decode cX6_readCard 29 = .ok (.iconst 1, 1) := dz1 (k := 29) (m := 1) dza0_cX6_readCard_0 di_10 (Nat.zero_lt_succ _) rfl
theorem dX6_readCard_30 : decode cX6_readCard 30 = .ok (.iadd, 1) := dz1 (k := 30) (m := 1) dza0_cX6_readCard_0 di_24 (Nat.zero_lt_succ _) rfl
theorem dX6_readCard_31 : decode cX6_readCard 31 = .ok (.if_icmp .gt 38, 3) := dz1 (k := 31) (m := 3) dza0_cX6_readCard_0 di_118 (Nat.zero_lt_succ _) rfl
set_option maxRecDepth 100000 in
theorem dza0_cX6_readCard_32 : DzLies cX6_readCard (.mk ⟨[0x00, 0x26, 0x15, 0x07, 0x1c, 0xa1, 0x00, 0x05, 0x1c, 0xac, 0x2b, 0x15, 0x07, 0x33, 0x10, 0x30, 0xa1, 0x00, 0x0c, 0x2b, 0x15, 0x07, 0x33, 0x10, 0x39, 0xa4, 0x00, 0x06, 0x15, 0x07, 0xac, 0x84, 0x07, 0x01]⟩) 32 := dz_lies (m := 34) (Nat.zero_lt_succ _) rfl
theorem dX6_readCard_34 : decode cX6_readCard 34 = .ok (.iload 7, 2) := dz1 (k := 2) (m := 2) dza0_cX6_readCard_32 di_117 (Nat.zero_lt_succ _) rfl
theorem dX6_readCard_36 : decode cX6_readCard 36 = .ok (.iload_n 2, 1) := dz1 (k := 4) (m := 1) dza0_cX6_readCard_32 di_28 (Nat.zero_lt_succ _) rfl
theorem dX6_readCard_37 : decode cX6_readCard 37 = .ok (.if_icmp .lt 5, 3) := dz1 (k := 5) (m := 3) dza0_cX6_readCard_32 di_98 (Nat.zero_lt_succ _) rfl
theorem dX6_readCard_40 : decode cX6_readCard 40 = .ok (.iload_n 2, 1) := dz1 (k := 8) (m := 1) dza0_cX6_readCard_32 di_28 (Nat.zero_lt_succ _) rfl
theorem dX6_readCard_41 : decode cX6_readCard 41 = .ok (.ireturn, 1) := dz1 (k := 9) (m := 1) dza0_cX6_readCard_32 di_13 (Nat.zero_lt_succ _) rfl
theorem dX6_readCard_42 : decode cX6_readCard 42 = .ok (.aload_n 1, 1) := dz1 (k := 10) (m := 1) dza0_cX6_readCard_32 di_26 (Nat.zero_lt_succ _) rfl
theorem dX6_readCard_43 : decode cX6_readCard 43 = .ok (.iload 7, 2) := dz1 (k := 11) (m := 2) dza0_cX6_readCard_32 di_117 (Nat.zero_lt_succ _) rfl
theorem dX6_readCard_45 : decode cX6_readCard 45 = .ok (.baload, 1) := dz1 (k := 13) (m := 1) dza0_cX6_readCard_32 di_91 (Nat.zero_lt_succ _) rfl
theorem dX6_readCard_46 : decode cX6_readCard 46 = .ok (.bipush 48, 2) := dz1 (k := 14) (m := 2) dza0_cX6_readCard_32 di_119 (Nat.zero_lt_succ _) rfl
theorem dX6_readCard_48 : decode cX6_readCard 48 = .ok (.if_icmp .lt 12, 3) := dz1 (k := 16) (m := 3) dza0_cX6_readCard_32 di_120 (Nat.zero_lt_succ _) rfl
theorem dX6_readCard_51 : decode cX6_readCard 51 = .ok (.aload_n 1, 1) := dz1 (k := 19) (m := 1) dza0_cX6_readCard_32 di_26 (Nat.zero_lt_succ _) rfl
theorem dX6_readCard_52 : decode cX6_readCard 52 = .ok (.iload 7, 2) := dz1 (k := 20) (m := 2) dza0_cX6_readCard_32 di_117 (Nat.zero_lt_succ _) rfl
theorem dX6_readCard_54 : decode cX6_readCard 54 = .ok (.baload, 1) := dz1 (k := 22) (m := 1) dza0_cX6_readCard_32 di_91 (Nat.zero_lt_succ _) rfl
theorem dX6_readCard_55 : decode cX6_readCard 55 = .ok (.bipush 57, 2) := dz1 (k := 23) (m := 2) dza0_cX6_readCard_32 di_121 (Nat.zero_lt_succ _) rfl
theorem dX6_readCard_57 : decode cX6_readCard 57 = .ok (.if_icmp .le 6, 3) := dz1 (k := 25) (m := 3) dza0_cX6_readCard_32 di_122 (Nat.zero_lt_succ _) rfl
theorem dX6_readCard_60 : decode cX6_readCard 60 = .ok (.iload 7, 2) := dz1 (k := 28) (m := 2) dza0_cX6_readCard_32 di_117 (Nat.zero_lt_succ _) rfl
theorem dX6_readCard_62 : decode cX6_readCard 62 = .ok (.ireturn, 1) := dz1 (k := 30) (m := 1) dza0_cX6_readCard_32 di_13 (Nat.zero_lt_succ _) rfl
theorem dX6_readCard_63 : decode cX6_readCard 63 = .ok (.iinc 7 1, 3) := dz1 (k := 31) (m := 3) dza0_cX6_readCard_32 di_123 (Nat.zero_lt_succ _) rfl
set_option maxRecDepth 100000 in
theorem dza0_cX6_readCard_64 : DzLies cX6_readCard (.mk ⟨[0x07, 0x01, 0xa7, 0xff, 0xd7, 0x2b, 0x15, 0x06, 0x33, 0x10, 0x30, 0x64, 0x10, 0x0a, 0x68, 0x2b, 0x15, 0x06, 0x04, 0x60, 0x33, 0x60, 0x10, 0x30, 0x64, 0x36, 0x07, 0x15, 0x07, 0x04, 0xa1, 0x00, 0x15]⟩) 64 := dz_lies (m := 33) (Nat.zero_lt_succ _) rfl
theorem dX6_readCard_66 : decode cX6_readCard 66 = .ok (.goto (-41), 3) := dz1 (k := 2) (m := 3) dza0_cX6_readCard_64 di_124 (Nat.zero_lt_succ _) rfl
theorem dX6_readCard_69 : decode cX6_readCard 69 = .ok (.aload_n 1, 1) := dz1 (k := 5) (m := 1) dza0_cX6_readCard_64 di_26 (Nat.zero_lt_succ _) rfl
theorem dX6_readCard_70 : decode cX6_readCard 70 = .ok (.iload 6, 2) := dz1 (k := 6) (m := 2) dza0_cX6_readCard_64 di_115 (Nat.zero_lt_succ _) rfl
theorem dX6_readCard_72 : decode cX6_readCard 72 = .ok (.baload, 1) := dz1 (k := 8) (m := 1) dza0_cX6_readCard_64 di_91 (Nat.zero_lt_succ _) rfl
theorem dX6_readCard_73 : decode cX6_readCard 73 = .ok (.bipush 48, 2) := dz1 (k := 9) (m := 2) dza0_cX6_readCard_64 di_119 (Nat.zero_lt_succ _) rfl
theorem dX6_readCard_75 : decode cX6_readCard 75 = .ok (.isub, 1) := dz1 (k := 11) (m := 1) dza0_cX6_readCard_64 di_14 (Nat.zero_lt_succ _) rfl
theorem dX6_readCard_76 : decode cX6_readCard 76 = .ok (.bipush 10, 2) := dz1 (k := 12) (m := 2) dza0_cX6_readCard_64 di_73 (Nat.zero_lt_succ _) rfl
theorem dX6_readCard_78 : decode cX6_readCard 78 = .ok (.imul, 1) := dz1 (k := 14) (m := 1) dza0_cX6_readCard_64 di_113 (Nat.zero_lt_succ _) rfl
theorem dX6_readCard_79 : decode cX6_readCard 79 = .ok (.aload_n 1, 1) := dz1 (k := 15) (m := 1) dza0_cX6_readCard_64 di_26 (Nat.zero_lt_succ _) rfl
theorem dX6_readCard_80 : decode cX6_readCard 80 = .ok (.iload 6, 2) := dz1 (k := 16) (m := 2) dza0_cX6_readCard_64 di_115 (Nat.zero_lt_succ _) rfl
theorem dX6_readCard_82 : decode cX6_readCard 82 = .ok (.iconst 1, 1) := dz1 (k := 18) (m := 1) dza0_cX6_readCard_64 di_10 (Nat.zero_lt_succ _) rfl
theorem dX6_readCard_83 : decode cX6_readCard 83 = .ok (.iadd, 1) := dz1 (k := 19) (m := 1) dza0_cX6_readCard_64 di_24 (Nat.zero_lt_succ _) rfl
theorem dX6_readCard_84 : decode cX6_readCard 84 = .ok (.baload, 1) := dz1 (k := 20) (m := 1) dza0_cX6_readCard_64 di_91 (Nat.zero_lt_succ _) rfl
theorem dX6_readCard_85 : decode cX6_readCard 85 = .ok (.iadd, 1) := dz1 (k := 21) (m := 1) dza0_cX6_readCard_64 di_24 (Nat.zero_lt_succ _) rfl
theorem dX6_readCard_86 : decode cX6_readCard 86 = .ok (.bipush 48, 2) := dz1 (k := 22) (m := 2) dza0_cX6_readCard_64 di_119 (Nat.zero_lt_succ _) rfl
theorem dX6_readCard_88 : decode cX6_readCard 88 = .ok (.isub, 1) := dz1 (k := 24) (m := 1) dza0_cX6_readCard_64 di_14 (Nat.zero_lt_succ _) rfl
theorem dX6_readCard_89 : decode cX6_readCard 89 = .ok (.istore 7, 2) := dz1 (k := 25) (m := 2) dza0_cX6_readCard_64 di_116 (Nat.zero_lt_succ _) rfl
theorem dX6_readCard_91 : decode cX6_readCard 91 = .ok (.iload 7, 2) := dz1 (k := 27) (m := 2) dza0_cX6_readCard_64 di_117 (Nat.zero_lt_succ _) rfl
theorem dX6_readCard_93 : decode cX6_readCard 93 = .ok (.iconst 1, 1) := dz1 (k := 29) (m := 1) dza0_cX6_readCard_64 di_10 (Nat.zero_lt_succ _) rfl
theorem dX6_readCard_94 : decode cX6_readCard 94 = .ok (.if_icmp .lt 21, 3) := dz1 (k := 30) (m := 3) dza0_cX6_readCard_64 di_125 (Nat.zero_lt_succ _) rfl
set_option maxRecDepth 100000 in
theorem dza0_cX6_readCard_96 : DzLies cX6_readCard (.mk ⟨[0x15, 0x15, 0x07, 0x10, 0x0c, 0xa3, 0x00, 0x0e, 0x15, 0x04, 0x15, 0x07, 0x7a, 0x04, 0x7e, 0x04, 0xa0, 0x00, 0x06, 0x15, 0x06, 0xac, 0x15, 0x04, 0x04, 0x15, 0x07, 0x78, 0x80, 0x36, 0x04, 0x2a]⟩) 96 := dz_lies (m := 32) (Nat.zero_lt_succ _) rfl
theorem dX6_readCard_97 : decode cX6_readCard 97 = .ok (.iload 7, 2) := dz1 (k := 1) (m := 2) dza0_cX6_readCard_96 di_117 (Nat.zero_lt_succ _) rfl
theorem dX6_readCard_99 : decode cX6_readCard 99 = .ok (.bipush 12, 2) := dz1 (k := 3) (m := 2) dza0_cX6_readCard_96 di_126 (Nat.zero_lt_succ _) rfl
theorem dX6_readCard_101 : decode cX6_readCard 101 = .ok (.if_icmp .gt 14, 3) := dz1 (k := 5) (m := 3) dza0_cX6_readCard_96 di_127 (Nat.zero_lt_succ _) rfl
theorem dX6_readCard_104 : decode cX6_readCard 104 = .ok (.iload 4, 2) := dz1 (k := 8) (m := 2) dza0_cX6_readCard_96 di_52 (Nat.zero_lt_succ _) rfl
theorem dX6_readCard_106 : decode cX6_readCard 106 = .ok (.iload 7, 2) := dz1 (k := 10) (m := 2) dza0_cX6_readCard_96 di_117 (Nat.zero_lt_succ _) rfl
theorem dX6_readCard_108 : decode cX6_readCard 108 = .ok (.ishr, 1) := dz1 (k := 12) (m := 1) dza0_cX6_readCard_96 di_47 (Nat.zero_lt_succ _) rfl
theorem dX6_readCard_109 : decode cX6_readCard 109 = .ok (.iconst 1, 1) := dz1 (k := 13) (m := 1) dza0_cX6_readCard_96 di_10 (Nat.zero_lt_succ _) rfl
theorem dX6_readCard_110 : decode cX6_readCard 110 = .ok (.iand, 1) := dz1 (k := 14) (m := 1) dza0_cX6_readCard_96 di_48 (Nat.zero_lt_succ _) rfl
theorem dX6_readCard_111 : decode cX6_readCard 111 = .ok (.iconst 1, 1) := dz1 (k := 15) (m := 1) dza0_cX6_readCard_96 di_10 (Nat.zero_lt_succ _) rfl
theorem dX6_readCard_112 : decode cX6_readCard 112 = .ok (.if_icmp .ne 6, 3) := dz1 (k := 16) (m := 3) dza0_cX6_readCard_96 di_128 (Nat.zero_lt_succ _) rfl
theorem dX6_readCard_115 : decode cX6_readCard 115 = .ok (.iload 6, 2) := dz1 (k := 19) (m := 2) dza0_cX6_readCard_96 di_115 (Nat.zero_lt_succ _) rfl
theorem dX6_readCard_117 : decode cX6_readCard 117 = .ok (.ireturn, 1) := dz1 (k := 21) (m := 1) dza0_cX6_readCard_96 di_13 (Nat.zero_lt_succ _) rfl
theorem dX6_readCard_118 : decode cX6_readCard 118 = .ok (.iload 4, 2) := dz1 (k := 22) (m := 2) dza0_cX6_readCard_96 di_52 (Nat.zero_lt_succ _) rfl
theorem dX6_readCard_120 : decode cX6_readCard 120 = .ok (.iconst 1, 1) := dz1 (k := 24) (m := 1) dza0_cX6_readCard_96 di_10 (Nat.zero_lt_succ _) rfl
theorem dX6_readCard_121 : decode cX6_readCard 121 = .ok (.iload 7, 2) := dz1 (k := 25) (m := 2) dza0_cX6_readCard_96 di_117 (Nat.zero_lt_succ _) rfl
theorem dX6_readCard_123 : decode cX6_readCard 123 = .ok (.ishl, 1) := dz1 (k := 27) (m := 1) dza0_cX6_readCard_96 di_12 (Nat.zero_lt_succ _) rfl
theorem dX6_readCard_124 : decode cX6_readCard 124 = .ok (.ior, 1) := dz1 (k := 28) (m := 1) dza0_cX6_readCard_96 di_62 (Nat.zero_lt_succ _) rfl
theorem dX6_readCard_125 : decode cX6_readCard 125 = .ok (.istore 4, 2) := dz1 (k := 29) (m := 2) dza0_cX6_readCard_96 di_51 (Nat.zero_lt_succ _) rfl
theorem dX6_readCard_127 : decode cX6_readCard 127 = .ok (.aload_n 0, 1) := dz1 (k := 31) (m := 1) dza0_cX6_readCard_96 di_0 (Nat.zero_lt_succ _) rfl
set_option maxRecDepth 100000 in
theorem dza0_cX6_readCard_128 : DzLies cX6_readCard (.mk ⟨[0xb4, 0x00, 0x11, 0x2a, 0xb4, 0x00, 0x14, 0x32, 0x15, 0x05, 0x15, 0x07, 0x4f, 0x84, 0x05, 0x01, 0xa7, 0xff, 0x76, 0x10, 0xf7, 0xac]⟩) 128 := dz_lies (m := 22) (Nat.zero_lt_succ _) rfl
theorem dX6_readCard_128 : decode cX6_readCard 128 = .ok (.getfield 17, 3) := dz1 (k := 0) (m := 3) dza0_cX6_readCard_128 di_129 (Nat.zero_lt_succ _) rfl
theorem dX6_readCard_131 : decode cX6_readCard 131 = .ok (.aload_n 0, 1) := dz1 (k := 3) (m := 1) dza0_cX6_readCard_128 di_0 (Nat.zero_lt_succ _) rfl
theorem dX6_readCard_132 : decode cX6_readCard 132 = .ok (.getfield 20, 3) := dz1 (k := 4) (m := 3) dza0_cX6_readCard_128 di_97 (Nat.zero_lt_succ _) rfl
theorem dX6_readCard_135 : decode cX6_readCard 135 = .ok (.aaload, 1) := dz1 (k := 7) (m := 1) dza0_cX6_readCard_128 di_130 (Nat.zero_lt_succ _) rfl
theorem dX6_readCard_136 : decode cX6_readCard 136 = .ok (.iload 5, 2) := dz1 (k := 8) (m := 2) dza0_cX6_readCard_128 di_101 (Nat.zero_lt_succ _) rfl
theorem dX6_readCard_138 : decode cX6_readCard 138 = .ok (.iload 7, 2) := dz1 (k := 10) (m := 2) dza0_cX6_readCard_128 di_117 (Nat.zero_lt_succ _) rfl
theorem dX6_readCard_140 : decode cX6_readCard 140 = .ok (.iastore, 1) := dz1 (k := 12) (m := 1) dza0_cX6_readCard_128 di_22 (Nat.zero_lt_succ _) rfl
theorem dX6_readCard_141 : decode cX6_readCard 141 = .ok (.iinc 5 1, 3) := dz1 (k := 13) (m := 3) dza0_cX6_readCard_128 di_131 (Nat.zero_lt_succ _) rfl
theorem dX6_readCard_144 : decode cX6_readCard 144 = .ok (.goto (-138), 3) := dz1 (k := 16) (m := 3) dza0_cX6_readCard_128 di_132 (Nat.zero_lt_succ _) rfl
theorem dX6_readCard_147 : decode cX6_readCard 147 = .ok (.bipush (-9), 2) := dz1 (k := 19) (m := 2) dza0_cX6_readCard_128 di_102 (Nat.zero_lt_succ _) rfl
theorem dX6_readCard_149 : decode cX6_readCard 149 = .ok (.ireturn, 1) := dz1 (k := 21) (m := 1) dza0_cX6_readCard_128 di_13 (Nat.zero_lt_succ _) rfl
set_option maxRecDepth 100000 in
theorem dza0_cX7_init_0 : DzLies cX7_init (.mk ⟨[0x2a, 0xb7, 0x00, 0x03, 0x2a, 0x10, 0x06, 0xbd, 0x00, 0x09, 0x59, 0x03, 0xbb, 0x00, 0x09, 0x59, 0xb7, 0x00, 0x0b, 0x53, 0x59, 0x04, 0xbb, 0x00, 0x0c, 0x59, 0xb7, 0x00, 0x0e, 0x53, 0x59, 0x05]⟩) 0 := dz_lies (m := 32) (Nat.zero_lt_succ _) rfl
theorem dX7_init_0 : decode cX7_init 0 = .ok (.aload_n 0, 1) := dz1 (k := 0) (m := 1) dza0_cX7_init_0 di_0 (Nat.zero_lt_succ _) rfl
theorem dX7_init_1 : decode cX7_init 1 = .ok (.invokespecial 3, 3) := dz1 (k := 1) (m := 3) dza0_cX7_init_0 di_15 (Nat.zero_lt_succ _) rfl
theorem dX7_init_4 : decode cX7_init 4 = .ok (.aload_n 0, 1) := dz1 (k := 4) (m := 1) dza0_cX7_init_0 di_0 (Nat.zero_lt_succ _) rfl
theorem dX7_init_5 : decode cX7_init 5 = .ok (.bipush 6, 2) := dz1 (k := 5) (m := 2) dza0_cX7_init_0 di_86 (Nat.zero_lt_succ _) rfl
theorem dX7_init_7 : decode cX7_init 7 = .ok (.anewarray 9, 3) := dz1 (k := 7) (m := 3) dza0_cX7_init_0 di_133 (Nat.zero_lt_succ _) rfl
theorem dX7_init_10 : decode cX7_init 10 = .ok (.dup, 1) := dz1 (k := 10) (m := 1) dza0_cX7_init_0 di_23 (Nat.zero_lt_succ _) rfl
theorem dX7_init_11 : decode cX7_init 11 = .ok (.iconst 0, 1) := dz1 (k := 11) (m := 1) dza0_cX7_init_0 di_8 (Nat.zero_lt_succ _) rfl
theorem dX7_init_12 : decode cX7_init 12 = .ok (.new 9, 3) := dz1 (k := 12) (m := 3) dza0_cX7_init_0 di_134 (Nat.zero_lt_succ _) rfl
theorem dX7_init_15 : decode cX7_init 15 = .ok (.dup, 1) := dz1 (k := 15) (m := 1) dza0_cX7_init_0 di_23 (Nat.zero_lt_succ _) rfl
theorem dX7_init_16 : decode cX7_init 16 = .ok (.invokespecial 11, 3) := dz1 (k := 16) (m := 3) dza0_cX7_init_0 di_135 (Nat.zero_lt_succ _) rfl
theorem dX7_init_19 : decode cX7_init 19 = .ok (.aastore, 1) := dz1 (k := 19) (m := 1) dza0_cX7_init_0 di_136 (Nat.zero_lt_succ _) rfl
theorem dX7_init_20 : decode cX7_init 20 = .ok (.dup, 1) := dz1 (k := 20) (m := 1) dza0_cX7_init_0 di_23 (Nat.zero_lt_succ _) rfl
theorem dX7_init_21 : decode cX7_init 21 = .ok (.iconst 1, 1) := dz1 (k := 21) (m := 1) dza0_cX7_init_0 di_10 (Nat.zero_lt_succ _) rfl
theorem dX7_init_22 : decode cX7_init 22 = .ok (.new 12, 3) := dz1 (k := 22) (m := 3) dza0_cX7_init_0 di_137 (Nat.zero_lt_succ _) rfl
theorem dX7_init_25 : decode cX7_init 25 = .ok (.dup, 1) := dz1 (k := 25) (m := 1) dza0_cX7_init_0 di_23 (Nat.zero_lt_succ _) rfl
theorem dX7_init_26 : decode cX7_init 26 = .ok (.invokespecial 14, 3) := dz1 (k := 26) (m := 3) dza0_cX7_init_0 di_138 (Nat.zero_lt_succ _) rfl
theorem dX7_init_29 : decode cX7_init 29 = .ok (.aastore, 1) := dz1 (k := 29) (m := 1) dza0_cX7_init_0 di_136 (Nat.zero_lt_succ _) rfl
theorem dX7_init_30 : decode cX7_init 30 = .ok (.dup, 1) := dz1 (k := 30) (m := 1) dza0_cX7_init_0 di_23 (Nat.zero_lt_succ _) rfl
theorem dX7_init_31 : decode cX7_init 31 = .ok (.iconst 2, 1) := dz1 (k := 31) (m := 1) dza0_cX7_init_0 di_6 (Nat.zero_lt_succ _) rfl
set_option maxRecDepth 100000 in
theorem dza0_cX7_init_32 : DzLies cX7_init (.mk ⟨[0xbb, 0x00, 0x0f, 0x59, 0xb7, 0x00, 0x11, 0x53, 0x59, 0x06, 0xbb, 0x00, 0x12, 0x59, 0xb7, 0x00, 0x14, 0x53, 0x59, 0x07, 0xbb, 0x00, 0x15, 0x59, 0xb7, 0x00, 0x17, 0x53, 0x59, 0x08, 0xbb, 0x00, 0x18]⟩) 32 := dz_lies (m := 33) (Nat.zero_lt_succ _) rfl
theorem dX7_init_32 : decode cX7_init 32 = .ok (.new 15, 3) := dz1 (k := 0) (m := 3) dza0_cX7_init_32 di_139 (Nat.zero_lt_succ _) rfl
theorem dX7_init_35 : decode cX7_init 35 = .ok (.dup, 1) := dz1 (k := 3) (m := 1) dza0_cX7_init_32 di_23 (Nat.zero_lt_succ _) rfl
theorem dX7_init_36 : decode cX7_init 36 = .ok (.invokespecial 17, 3) := dz1 (k := 4) (m := 3) dza0_cX7_init_32 di_140 (Nat.zero_lt_succ _) rfl
theorem dX7_init_39 : decode cX7_init 39 = .ok (.aastore, 1) := dz1 (k := 7) (m := 1) dza0_cX7_init_32 di_136 (Nat.zero_lt_succ _) rfl
theorem dX7_init_40 : decode cX7_init 40 = .ok (.dup, 1) := dz1 (k := 8) (m := 1) dza0_cX7_init_32 di_23 (Nat.zero_lt_succ _) rfl
theorem dX7_init_41 : decode cX7_init 41 = .ok (.iconst 3, 1) := dz1 (k := 9) (m := 1) dza0_cX7_init_32 di_4 (Nat.zero_lt_succ _) rfl
theorem dX7_init_42 : decode cX7_init 42 = .ok (.new 18, 3) := dz1 (k := 10) (m := 3) dza0_cX7_init_32 di_141 (Nat.zero_lt_succ _) rfl
theorem dX7_init_45 : decode cX7_init 45 = .ok (.dup, 1) := dz1 (k := 13) (m := 1) dza0_cX7_init_32 di_23 (Nat.zero_lt_succ _) rfl
theorem dX7_init_46 : decode cX7_init 46 = .ok (.invokespecial 20, 3) := dz1 (k := 14) (m := 3) dza0_cX7_init_32 di_142 (Nat.zero_lt_succ _) rfl
theorem dX7_init_49 : decode cX7_init 49 = .ok (.aastore, 1) := dz1 (k := 17) (m := 1) dza0_cX7_init_32 di_136 (Nat.zero_lt_succ _) rfl
theorem dX7_init_50 : decode cX7_init 50 = .ok (.dup, 1) := dz1 (k := 18) (m := 1) dza0_cX7_init_32 di_23 (Nat.zero_lt_succ _) rfl
theorem dX7_init_51 : decode cX7_init 51 = .ok (.iconst 4, 1) := dz1 (k := 19) (m := 1) dza0_cX7_init_32 di_33 (Nat.zero_lt_succ _) rfl
theorem dX7_init_52 : decode cX7_init 52 = .ok (.new 21, 3) := dz1 (k := 20) (m := 3) dza0_cX7_init_32 di_143 (Nat.zero_lt_succ _) rfl
theorem dX7_init_55 : decode cX7_init 55 = .ok (.dup, 1) := dz1 (k := 23) (m := 1) dza0_cX7_init_32 di_23 (Nat.zero_lt_succ _) rfl
theorem dX7_init_56 : decode cX7_init 56 = .ok (.invokespecial 23, 3) := dz1 (k := 24) (m := 3) dza0_cX7_init_32 di_144 (Nat.zero_lt_succ _) rfl
theorem dX7_init_59 : decode cX7_init 59 = .ok (.aastore, 1) := dz1 (k := 27) (m := 1) dza0_cX7_init_32 di_136 (Nat.zero_lt_succ _) rfl
theorem dX7_init_60 : decode cX7_init 60 = .ok (.dup, 1) := dz1 (k := 28) (m := 1) dza0_cX7_init_32 di_23 (Nat.zero_lt_succ _) rfl
theorem dX7_init_61 : decode cX7_init 61 = .ok (.iconst 5, 1) := dz1 (k := 29) (m := 1) dza0_cX7_init_32 di_145 (Nat.zero_lt_succ _) rfl
theorem dX7_init_62 : decode cX7_init 62 = .ok (.new 24, 3) := dz1 (k := 30) (m := 3) dza0_cX7_init_32 di_146 (Nat.zero_lt_succ _) rfl
set_option maxRecDepth 100000 in
theorem dza0_cX7_init_64 : DzLies cX7_init (.mk ⟨[0x18, 0x59, 0xb7, 0x00, 0x1a, 0x53, 0xb5, 0x00, 0x1b, 0x2a, 0x07, 0xbc, 0x0a, 0xb5, 0x00, 0x21, 0x2a, 0x07, 0x10, 0x06, 0xc5, 0x00, 0x25, 0x02, 0xb5, 0x00, 0x27, 0x2a, 0x07, 0xbc, 0x0a, 0xb5, 0x00, 0x2a]⟩) 64 := dz_lies (m := 34) (Nat.zero_lt_succ _) rfl
theorem dX7_init_65 : decode cX7_init 65 = .ok (.dup, 1) := dz1 (k := 1) (m := 1) dza0_cX7_init_64 di_23 (Nat.zero_lt_succ _) rfl
theorem dX7_init_66 : decode cX7_init 66 = .ok (.invokespecial 26, 3) := dz1 (k := 2) (m := 3) dza0_cX7_init_64 di_147 (Nat.zero_lt_succ _) rfl
theorem dX7_init_69 : decode cX7_init 69 = .ok (.aastore, 1) := dz1 (k := 5) (m := 1) dza0_cX7_init_64 di_136 (Nat.zero_lt_succ _) rfl
theorem dX7_init_70 : decode cX7_init 70 = .ok (.putfield 27, 3) := dz1 (k := 6) (m := 3) dza0_cX7_init_64 di_148 (Nat.zero_lt_succ _) rfl
theorem dX7_init_73 : decode cX7_init 73 = .ok (.aload_n 0, 1) := dz1 (k := 9) (m := 1) dza0_cX7_init_64 di_0 (Nat.zero_lt_succ _) rfl
theorem dX7_init_74 : decode cX7_init 74 = .ok (.iconst 4, 1) := dz1 (k := 10) (m := 1) dza0_cX7_init_64 di_33 (Nat.zero_lt_succ _) rfl
theorem dX7_init_75 : decode cX7_init 75 = .ok (.newarray .int, 2) := dz1 (k := 11) (m := 2) dza0_cX7_init_64 di_17 (Nat.zero_lt_succ _) rfl
theorem dX7_init_77 : decode cX7_init 77 = .ok (.putfield 33, 3) := dz1 (k := 13) (m := 3) dza0_cX7_init_64 di_149 (Nat.zero_lt_succ _) rfl
theorem dX7_init_80 : decode cX7_init 80 = .ok (.aload_n 0, 1) := dz1 (k := 16) (m := 1) dza0_cX7_init_64 di_0 (Nat.zero_lt_succ _) rfl
theorem dX7_init_81 : decode cX7_init 81 = .ok (.iconst 4, 1) := dz1 (k := 17) (m := 1) dza0_cX7_init_64 di_33 (Nat.zero_lt_succ _) rfl
theorem dX7_init_82 : decode cX7_init 82 = .ok (.bipush 6, 2) := dz1 (k := 18) (m := 2) dza0_cX7_init_64 di_86 (Nat.zero_lt_succ _) rfl
theorem dX7_init_84 : decode cX7_init 84 = .ok (.multianewarray 37 2, 4) := dz1 (k := 20) (m := 4) dza0_cX7_init_64 di_150 (Nat.zero_lt_succ _) rfl
theorem dX7_init_88 : decode cX7_init 88 = .ok (.putfield 39, 3) := dz1 (k := 24) (m := 3) dza0_cX7_init_64 di_151 (Nat.zero_lt_succ _) rfl
theorem dX7_init_91 : decode cX7_init 91 = .ok (.aload_n 0, 1) := dz1 (k := 27) (m := 1) dza0_cX7_init_64 di_0 (Nat.zero_lt_succ _) rfl
theorem dX7_init_92 : decode cX7_init 92 = .ok (.iconst 4, 1) := dz1 (k := 28) (m := 1) dza0_cX7_init_64 di_33 (Nat.zero_lt_succ _) rfl
theorem dX7_init_93 : decode cX7_init 93 = .ok (.newarray .int, 2) := dz1 (k := 29) (m := 2) dza0_cX7_init_64 di_17 (Nat.zero_lt_succ _) rfl
theorem dX7_init_95 : decode cX7_init 95 = .ok (.putfield 42, 3) := dz1 (k := 31) (m := 3) dza0_cX7_init_64 di_152 (Nat.zero_lt_succ _) rfl
set_option maxRecDepth 100000 in
theorem dza0_cX7_init_96 : DzLies cX7_init (.mk ⟨[0x00, 0x2a, 0xb1]⟩) 96 := dz_lies (m := 3) (Nat.zero_lt_succ _) rfl
theorem dX7_init_98 : decode cX7_init 98 = .ok (.return_, 1) := dz1 (k := 2) (m := 1) dza0_cX7_init_96 di_2 (Nat.zero_lt_succ _) rfl
set_option maxRecDepth 100000 in
theorem dza0_cX7_fillBy_0 : DzLies cX7_fillBy (.mk ⟨[0x2a, 0x2b, 0xb4, 0x00, 0x2d, 0xb5, 0x00, 0x33, 0x03, 0x3d, 0x1c, 0x2a, 0xb4, 0x00, 0x33, 0xa2, 0x00, 0x4d, 0x2a, 0xb4, 0x00, 0x21, 0x1c, 0x2b, 0xb4, 0x00, 0x36, 0x1c, 0x2e, 0x4f, 0x2a, 0xb4, 0x00, 0x2a]⟩) 0 := dz_lies (m := 34) (Nat.zero_lt_succ _) rfl
theorem dX7_fillBy_0 : decode cX7_fillBy 0 = .ok (.aload_n 0, 1) := dz1 (k := 0) (m := 1) dza0_cX7_fillBy_0 di_0 (Nat.zero_lt_succ _) rfl
theorem dX7_fillBy_1 : decode cX7_fillBy 1 = .ok (.aload_n 1, 1) := dz1 (k := 1) (m := 1) dza0_cX7_fillBy_0 di_26 (Nat.zero_lt_succ _) rfl
theorem dX7_fillBy_2 : decode cX7_fillBy 2 = .ok (.getfield 45, 3) := dz1 (k := 2) (m := 3) dza0_cX7_fillBy_0 di_153 (Nat.zero_lt_succ _) rfl
theorem dX7_fillBy_5 : decode cX7_fillBy 5 = .ok (.putfield 51, 3) := dz1 (k := 5) (m := 3) dza0_cX7_fillBy_0 di_154 (Nat.zero_lt_succ _) rfl
theorem dX7_fillBy_8 : decode cX7_fillBy 8 = .ok (.iconst 0, 1) := dz1 (k := 8) (m := 1) dza0_cX7_fillBy_0 di_8 (Nat.zero_lt_succ _) rfl
theorem dX7_fillBy_9 : decode cX7_fillBy 9 = .ok (.istore_n 2, 1) := dz1 (k := 9) (m := 1) dza0_cX7_fillBy_0 di_27 (Nat.zero_lt_succ _) rfl
theorem dX7_fillBy_10 : decode cX7_fillBy 10 = .ok (.iload_n 2, 1) := dz1 (k := 10) (m := 1) dza0_cX7_fillBy_0 di_28 (Nat.zero_lt_succ _) rfl
theorem dX7_fillBy_11 : decode cX7_fillBy 11 = .ok (.aload_n 0, 1) := dz1 (k := 11) (m := 1) dza0_cX7_fillBy_0 di_0 (Nat.zero_lt_succ _) rfl
theorem dX7_fillBy_12 : decode cX7_fillBy 12 = .ok (.getfield 51, 3) := dz1 (k := 12) (m := 3) dza0_cX7_fillBy_0 di_155 (Nat.zero_lt_succ _) rfl
theorem dX7_fillBy_15 : decode cX7_fillBy 15 = .ok (.if_icmp .ge 77, 3) := dz1 (k := 15) (m := 3) dza0_cX7_fillBy_0 di_156 (Nat.zero_lt_succ _) rfl
theorem dX7_fillBy_18 : decode cX7_fillBy 18 = .ok (.aload_n 0, 1) := dz1 (k := 18) (m := 1) dza0_cX7_fillBy_0 di_0 (Nat.zero_lt_succ _) rfl
theorem dX7_fillBy_19 : decode cX7_fillBy 19 = .ok (.getfield 33, 3) := dz1 (k := 19) (m := 3) dza0_cX7_fillBy_0 di_157 (Nat.zero_lt_succ _) rfl
theorem dX7_fillBy_22 : decode cX7_fillBy 22 = .ok (.iload_n 2, 1) := dz1 (k := 22) (m := 1) dza0_cX7_fillBy_0 di_28 (Nat.zero_lt_succ _) rfl
theorem dX7_fillBy_23 : decode cX7_fillBy 23 = .ok (.aload_n 1, 1) := dz1 (k := 23) (m := 1) dza0_cX7_fillBy_0 di_26 (Nat.zero_lt_succ _) rfl
theorem dX7_fillBy_24 : decode cX7_fillBy 24 = .ok (.getfield 54, 3) := dz1 (k := 24) (m := 3) dza0_cX7_fillBy_0 di_158 (Nat.zero_lt_succ _) rfl
theorem dX7_fillBy_27 : decode cX7_fillBy 27 = .ok (.iload_n 2, 1) := dz1 (k := 27) (m := 1) dza0_cX7_fillBy_0 di_28 (Nat.zero_lt_succ _) rfl
theorem dX7_fillBy_28 : decode cX7_fillBy 28 = .ok (.iaload, 1) := dz1 (k := 28) (m := 1) dza0_cX7_fillBy_0 di_30 (Nat.zero_lt_succ _) rfl
theorem dX7_fillBy_29 : decode cX7_fillBy 29 = .ok (.iastore, 1) := dz1 (k := 29) (m := 1) dza0_cX7_fillBy_0 di_22 (Nat.zero_lt_succ _) rfl
theorem dX7_fillBy_30 : decode cX7_fillBy 30 = .ok (.aload_n 0, 1) := dz1 (k := 30) (m := 1) dza0_cX7_fillBy_0 di_0 (Nat.zero_lt_succ _) rfl
theorem dX7_fillBy_31 : decode cX7_fillBy 31 = .ok (.getfield 42, 3) := dz1 (k := 31) (m := 3) dza0_cX7_fillBy_0 di_159 (Nat.zero_lt_succ _) rfl
set_option maxRecDepth 100000 in
theorem dza0_cX7_fillBy_32 : DzLies cX7_fillBy (.mk ⟨[0x00, 0x2a, 0x1c, 0x03, 0x4f, 0x03, 0x3e, 0x1d, 0x10, 0x06, 0xa2, 0x00, 0x2c, 0x2a, 0xb4, 0x00, 0x27, 0x1c, 0x32, 0x1d, 0x2b, 0xb4, 0x00, 0x37, 0x1c, 0x32, 0x1d, 0x2e, 0x4f, 0x2a, 0xb4, 0x00, 0x2a]⟩) 32 := dz_lies (m := 33) (Nat.zero_lt_succ _) rfl
theorem dX7_fillBy_34 : decode cX7_fillBy 34 = .ok (.iload_n 2, 1) := dz1 (k := 2) (m := 1) dza0_cX7_fillBy_32 di_28 (Nat.zero_lt_succ _) rfl
theorem dX7_fillBy_35 : decode cX7_fillBy 35 = .ok (.iconst 0, 1) := dz1 (k := 3) (m := 1) dza0_cX7_fillBy_32 di_8 (Nat.zero_lt_succ _) rfl
theorem dX7_fillBy_36 : decode cX7_fillBy 36 = .ok (.iastore, 1) := dz1 (k := 4) (m := 1) dza0_cX7_fillBy_32 di_22 (Nat.zero_lt_succ _) rfl
theorem dX7_fillBy_37 : decode cX7_fillBy 37 = .ok (.iconst 0, 1) := dz1 (k := 5) (m := 1) dza0_cX7_fillBy_32 di_8 (Nat.zero_lt_succ _) rfl
theorem dX7_fillBy_38 : decode cX7_fillBy 38 = .ok (.istore_n 3, 1) := dz1 (k := 6) (m := 1) dza0_cX7_fillBy_32 di_50 (Nat.zero_lt_succ _) rfl
theorem dX7_fillBy_39 : decode cX7_fillBy 39 = .ok (.iload_n 3, 1) := dz1 (k := 7) (m := 1) dza0_cX7_fillBy_32 di_3 (Nat.zero_lt_succ _) rfl
theorem dX7_fillBy_40 : decode cX7_fillBy 40 = .ok (.bipush 6, 2) := dz1 (k := 8) (m := 2) dza0_cX7_fillBy_32 di_86 (Nat.zero_lt_succ _) rfl
theorem dX7_fillBy_42 : decode cX7_fillBy 42 = .ok (.if_icmp .ge 44, 3) := dz1 (k := 10) (m := 3) dza0_cX7_fillBy_32 di_160 (Nat.zero_lt_succ _) rfl
theorem dX7_fillBy_45 : decode cX7_fillBy 45 = .ok (.aload_n 0, 1) := dz1 (k := 13) (m := 1) dza0_cX7_fillBy_32 di_0 (Nat.zero_lt_succ _) rfl
theorem dX7_fillBy_46 : decode cX7_fillBy 46 = .ok (.getfield 39, 3) := dz1 (k := 14) (m := 3) dza0_cX7_fillBy_32 di_161 (Nat.zero_lt_succ _) rfl
theorem dX7_fillBy_49 : decode cX7_fillBy 49 = .ok (.iload_n 2, 1) := dz1 (k := 17) (m := 1) dza0_cX7_fillBy_32 di_28 (Nat.zero_lt_succ _) rfl
theorem dX7_fillBy_50 : decode cX7_fillBy 50 = .ok (.aaload, 1) := dz1 (k := 18) (m := 1) dza0_cX7_fillBy_32 di_130 (Nat.zero_lt_succ _) rfl
theorem dX7_fillBy_51 : decode cX7_fillBy 51 = .ok (.iload_n 3, 1) := dz1 (k := 19) (m := 1) dza0_cX7_fillBy_32 di_3 (Nat.zero_lt_succ _) rfl
theorem dX7_fillBy_52 : decode cX7_fillBy 52 = .ok (.aload_n 1, 1) := dz1 (k := 20) (m := 1) dza0_cX7_fillBy_32 di_26 (Nat.zero_lt_succ _) rfl
theorem dX7_fillBy_53 : decode cX7_fillBy 53 = .ok (.getfield 55, 3) := dz1 (k := 21) (m := 3) dza0_cX7_fillBy_32 di_162 (Nat.zero_lt_succ _) rfl
theorem dX7_fillBy_56 : decode cX7_fillBy 56 = .ok (.iload_n 2, 1) := dz1 (k := 24) (m := 1) dza0_cX7_fillBy_32 di_28 (Nat.zero_lt_succ _) rfl
theorem dX7_fillBy_57 : decode cX7_fillBy 57 = .ok (.aaload, 1) := dz1 (k := 25) (m := 1) dza0_cX7_fillBy_32 di_130 (Nat.zero_lt_succ _) rfl
theorem dX7_fillBy_58 : decode cX7_fillBy 58 = .ok (.iload_n 3, 1) := dz1 (k := 26) (m := 1) dza0_cX7_fillBy_32 di_3 (Nat.zero_lt_succ _) rfl
theorem dX7_fillBy_59 : decode cX7_fillBy 59 = .ok (.iaload, 1) := dz1 (k := 27) (m := 1) dza0_cX7_fillBy_32 di_30 (Nat.zero_lt_succ _) rfl
theorem dX7_fillBy_60 : decode cX7_fillBy 60 = .ok (.iastore, 1) := dz1 (k := 28) (m := 1) dza0_cX7_fillBy_32 di_22 (Nat.zero_lt_succ _) rfl
theorem dX7_fillBy_61 : decode cX7_fillBy 61 = .ok (.aload_n 0, 1) := dz1 (k := 29) (m := 1) dza0_cX7_fillBy_32 di_0 (Nat.zero_lt_succ _) rfl
theorem dX7_fillBy_62 : decode cX7_fillBy 62 = .ok (.getfield 42, 3) := dz1 (k := 30) (m := 3) dza0_cX7_fillBy_32 di_159 (Nat.zero_lt_succ _) rfl
set_option maxRecDepth 100000 in
theorem dza0_cX7_fillBy_64 : DzLies cX7_fillBy (.mk ⟨[0x2a, 0x1c, 0x5c, 0x2e, 0x04, 0x2a, 0xb4, 0x00, 0x27, 0x1c, 0x32, 0x1d, 0x2e, 0x78, 0x80, 0x4f, 0x84, 0x03, 0x01, 0xa7, 0xff, 0xd4, 0x84, 0x02, 0x01, 0xa7, 0xff, 0xb1, 0xb1]⟩) 64 := dz_lies (m := 29) (Nat.zero_lt_succ _) rfl
theorem dX7_fillBy_65 : decode cX7_fillBy 65 = .ok (.iload_n 2, 1) := dz1 (k := 1) (m := 1) dza0_cX7_fillBy_64 di_28 (Nat.zero_lt_succ _) rfl
theorem dX7_fillBy_66 : decode cX7_fillBy 66 = .ok (.dup2, 1) := dz1 (k := 2) (m := 1) dza0_cX7_fillBy_64 di_67 (Nat.zero_lt_succ _) rfl
theorem dX7_fillBy_67 : decode cX7_fillBy 67 = .ok (.iaload, 1) := dz1 (k := 3) (m := 1) dza0_cX7_fillBy_64 di_30 (Nat.zero_lt_succ _) rfl
theorem dX7_fillBy_68 : decode cX7_fillBy 68 = .ok (.iconst 1, 1) := dz1 (k := 4) (m := 1) dza0_cX7_fillBy_64 di_10 (Nat.zero_lt_succ _) rfl
theorem dX7_fillBy_69 : decode cX7_fillBy 69 = .ok (.aload_n 0, 1) := dz1 (k := 5) (m := 1) dza0_cX7_fillBy_64 di_0 (Nat.zero_lt_succ _) rfl
theorem dX7_fillBy_70 : decode cX7_fillBy 70 = .ok (.getfield 39, 3) := dz1 (k := 6) (m := 3) dza0_cX7_fillBy_64 di_161 (Nat.zero_lt_succ _) rfl
theorem dX7_fillBy_73 : decode cX7_fillBy 73 = .ok (.iload_n 2, 1) := dz1 (k := 9) (m := 1) dza0_cX7_fillBy_64 di_28 (Nat.zero_lt_succ _) rfl
theorem dX7_fillBy_74 : decode cX7_fillBy 74 = .ok (.aaload, 1) := dz1 (k := 10) (m := 1) dza0_cX7_fillBy_64 di_130 (Nat.zero_lt_succ _) rfl
theorem dX7_fillBy_75 : decode cX7_fillBy 75 = .ok (.iload_n 3, 1) := dz1 (k := 11) (m := 1) dza0_cX7_fillBy_64 di_3 (Nat.zero_lt_succ _) rfl
theorem dX7_fillBy_76 : decode cX7_fillBy 76 = .ok (.iaload, 1) := dz1 (k := 12) (m := 1) dza0_cX7_fillBy_64 di_30 (Nat.zero_lt_succ _) rfl
theorem dX7_fillBy_77 : decode cX7_fillBy 77 = .ok (.ishl, 1) := dz1 (k := 13) (m := 1) dza0_cX7_fillBy_64 di_12 (Nat.zero_lt_succ _) rfl
theorem dX7_fillBy_78 : decode cX7_fillBy 78 = .ok (.ior, 1) := dz1 (k := 14) (m := 1) dza0_cX7_fillBy_64 di_62 (Nat.zero_lt_succ _) rfl
theorem dX7_fillBy_79 : decode cX7_fillBy 79 = .ok (.iastore, 1) := dz1 (k := 15) (m := 1) dza0_cX7_fillBy_64 di_22 (Nat.zero_lt_succ _) rfl
theorem dX7_fillBy_80 : decode cX7_fillBy 80 = .ok (.iinc 3 1, 3) := dz1 (k := 16) (m := 3) dza0_cX7_fillBy_64 di_94 (Nat.zero_lt_succ _) rfl
theorem dX7_fillBy_83 : decode cX7_fillBy 83 = .ok (.goto (-44), 3) := dz1 (k := 19) (m := 3) dza0_cX7_fillBy_64 di_163 (Nat.zero_lt_succ _) rfl
theorem dX7_fillBy_86 : decode cX7_fillBy 86 = .ok (.iinc 2 1, 3) := dz1 (k := 22) (m := 3) dza0_cX7_fillBy_64 di_31 (Nat.zero_lt_succ _) rfl
theorem dX7_fillBy_89 : decode cX7_fillBy 89 = .ok (.goto (-79), 3) := dz1 (k := 25) (m := 3) dza0_cX7_fillBy_64 di_164 (Nat.zero_lt_succ _) rfl
theorem dX7_fillBy_92 : decode cX7_fillBy 92 = .ok (.return_, 1) := dz1 (k := 28) (m := 1) dza0_cX7_fillBy_64 di_2 (Nat.zero_lt_succ _) rfl
set_option maxRecDepth 100000 in
theorem dza0_cX7_kindAt_0 : DzLies cX7_kindAt (.mk ⟨[0x2a, 0xb4, 0x00, 0x1b, 0x2a, 0xb4, 0x00, 0x21, 0x1b, 0x2e, 0x32, 0xb0]⟩) 0 := dz_lies (m := 12) (Nat.zero_lt_succ _) rfl
theorem dX7_kindAt_0 : decode cX7_kindAt 0 = .ok (.aload_n 0, 1) := dz1 (k := 0) (m := 1) dza0_cX7_kindAt_0 di_0 (Nat.zero_lt_succ _) rfl
theorem dX7_kindAt_1 : decode cX7_kindAt 1 = .ok (.getfield 27, 3) := dz1 (k := 1) (m := 3) dza0_cX7_kindAt_0 di_165 (Nat.zero_lt_succ _) rfl
theorem dX7_kindAt_4 : decode cX7_kindAt 4 = .ok (.aload_n 0, 1) := dz1 (k := 4) (m := 1) dza0_cX7_kindAt_0 di_0 (Nat.zero_lt_succ _) rfl
theorem dX7_kindAt_5 : decode cX7_kindAt 5 = .ok (.getfield 33, 3) := dz1 (k := 5) (m := 3) dza0_cX7_kindAt_0 di_157 (Nat.zero_lt_succ _) rfl
theorem dX7_kindAt_8 : decode cX7_kindAt 8 = .ok (.iload_n 1, 1) := dz1 (k := 8) (m := 1) dza0_cX7_kindAt_0 di_11 (Nat.zero_lt_succ _) rfl
theorem dX7_kindAt_9 : decode cX7_kindAt 9 = .ok (.iaload, 1) := dz1 (k := 9) (m := 1) dza0_cX7_kindAt_0 di_30 (Nat.zero_lt_succ _) rfl
theorem dX7_kindAt_10 : decode cX7_kindAt 10 = .ok (.aaload, 1) := dz1 (k := 10) (m := 1) dza0_cX7_kindAt_0 di_130 (Nat.zero_lt_succ _) rfl
theorem dX7_kindAt_11 : decode cX7_kindAt 11 = .ok (.areturn, 1) := dz1 (k := 11) (m := 1) dza0_cX7_kindAt_0 di_166 (Nat.zero_lt_succ _) rfl
set_option maxRecDepth 100000 in
theorem dza0_cX7_marked_0 : DzLies cX7_marked (.mk ⟨[0x1c, 0x36, 0x04, 0x1d, 0x2a, 0xb4, 0x00, 0x2a, 0x1b, 0x2e, 0x7e, 0x99, 0x00, 0x28, 0x03, 0x36, 0x05, 0x15, 0x05, 0x10, 0x06, 0xa2, 0x00, 0x1e, 0x15, 0x04, 0x1d, 0x2a, 0xb4, 0x00, 0x27, 0x1b]⟩) 0 := dz_lies (m := 32) (Nat.zero_lt_succ _) rfl
theorem dX7_marked_0 : decode cX7_marked 0 = .ok (.iload_n 2, 1) := dz1 (k := 0) (m := 1) dza0_cX7_marked_0 di_28 (Nat.zero_lt_succ _) rfl
theorem dX7_marked_1 : decode cX7_marked 1 = .ok (.istore 4, 2) := dz1 (k := 1) (m := 2) dza0_cX7_marked_0 di_51 (Nat.zero_lt_succ _) rfl
theorem dX7_marked_3 : decode cX7_marked 3 = .ok (.iload_n 3, 1) := dz1 (k := 3) (m := 1) dza0_cX7_marked_0 di_3 (Nat.zero_lt_succ _) rfl
theorem dX7_marked_4 : decode cX7_marked 4 = .ok (.aload_n 0, 1) := dz1 (k := 4) (m := 1) dza0_cX7_marked_0 di_0 (Nat.zero_lt_succ _) rfl
theorem dX7_marked_5 : decode cX7_marked 5 = .ok (.getfield 42, 3) := dz1 (k := 5) (m := 3) dza0_cX7_marked_0 di_159 (Nat.zero_lt_succ _) rfl
theorem dX7_marked_8 : decode cX7_marked 8 = .ok (.iload_n 1, 1) := dz1 (k := 8) (m := 1) dza0_cX7_marked_0 di_11 (Nat.zero_lt_succ _) rfl
theorem dX7_marked_9 : decode cX7_marked 9 = .ok (.iaload, 1) := dz1 (k := 9) (m := 1) dza0_cX7_marked_0 di_30 (Nat.zero_lt_succ _) rfl
theorem dX7_marked_10 : decode cX7_marked 10 = .ok (.iand, 1) := dz1 (k := 10) (m := 1) dza0_cX7_marked_0 di_48 (Nat.zero_lt_succ _) rfl
theorem dX7_marked_11 : decode cX7_marked 11 = .ok (.ifCond .eq 40, 3) := dz1 (k := 11) (m := 3) dza0_cX7_marked_0 di_167 (Nat.zero_lt_succ _) rfl
theorem dX7_marked_14 : decode cX7_marked 14 = .ok (.iconst 0, 1) := dz1 (k := 14) (m := 1) dza0_cX7_marked_0 di_8 (Nat.zero_lt_succ _) rfl
theorem dX7_marked_15 : decode cX7_marked 15 = .ok (.istore 5, 2) := dz1 (k := 15) (m := 2) dza0_cX7_marked_0 di_100 (Nat.zero_lt_succ _) rfl
theorem dX7_marked_17 : decode cX7_marked 17 = .ok (.iload 5, 2) := dz1 (k := 17) (m := 2) dza0_cX7_marked_0 di_101 (Nat.zero_lt_succ _) rfl
theorem dX7_marked_19 : decode cX7_marked 19 = .ok (.bipush 6, 2) := dz1 (k := 19) (m := 2) dza0_cX7_marked_0 di_86 (Nat.zero_lt_succ _) rfl
theorem dX7_marked_21 : decode cX7_marked 21 = .ok (.if_icmp .ge 30, 3) := dz1 (k := 21) (m := 3) dza0_cX7_marked_0 di_168 (Nat.zero_lt_succ _) rfl
theorem dX7_marked_24 : decode cX7_marked 24 = .ok (.iload 4, 2) := dz1 (k := 24) (m := 2) dza0_cX7_marked_0 di_52 (Nat.zero_lt_succ _) rfl
theorem dX7_marked_26 : decode cX7_marked 26 = .ok (.iload_n 3, 1) := dz1 (k := 26) (m := 1) dza0_cX7_marked_0 di_3 (Nat.zero_lt_succ _) rfl
theorem dX7_marked_27 : decode cX7_marked 27 = .ok (.aload_n 0, 1) := dz1 (k := 27) (m := 1) dza0_cX7_marked_0 di_0 (Nat.zero_lt_succ _) rfl
theorem dX7_marked_28 : decode cX7_marked 28 = .ok (.getfield 39, 3) := dz1 (k := 28) (m := 3) dza0_cX7_marked_0 di_161 (Nat.zero_lt_succ _) rfl
theorem dX7_marked_31 : decode cX7_marked 31 = .ok (.iload_n 1, 1) := dz1 (k := 31) (m := 1) dza0_cX7_marked_0 di_11 (Nat.zero_lt_succ _) rfl
set_option maxRecDepth 100000 in
theorem dza0_cX7_marked_32 : DzLies cX7_marked (.mk ⟨[0x32, 0x15, 0x05, 0x2e, 0x7a, 0x04, 0x7e, 0x15, 0x05, 0x78, 0x80, 0x36, 0x04, 0x84, 0x05, 0x01, 0xa7, 0xff, 0xe1, 0x15, 0x04, 0xac]⟩) 32 := dz_lies (m := 22) (Nat.zero_lt_succ _) rfl
theorem dX7_marked_32 : decode cX7_marked 32 = .ok (.aaload, 1) := dz1 (k := 0) (m := 1) dza0_cX7_marked_32 di_130 (Nat.zero_lt_succ _) rfl
theorem dX7_marked_33 : decode cX7_marked 33 = .ok (.iload 5, 2) := dz1 (k := 1) (m := 2) dza0_cX7_marked_32 di_101 (Nat.zero_lt_succ _) rfl
theorem dX7_marked_35 : decode cX7_marked 35 = .ok (.iaload, 1) := dz1 (k := 3) (m := 1) dza0_cX7_marked_32 di_30 (Nat.zero_lt_succ _) rfl
theorem dX7_marked_36 : decode cX7_marked 36 = .ok (.ishr, 1) := dz1 (k := 4) (m := 1) dza0_cX7_marked_32 di_47 (Nat.zero_lt_succ _) rfl
theorem dX7_marked_37 : decode cX7_marked 37 = .ok (.iconst 1, 1) := dz1 (k := 5) (m := 1) dza0_cX7_marked_32 di_10 (Nat.zero_lt_succ _) rfl
theorem dX7_marked_38 : decode cX7_marked 38 = .ok (.iand, 1) := dz1 (k := 6) (m := 1) dza0_cX7_marked_32 di_48 (Nat.zero_lt_succ _) rfl
theorem dX7_marked_39 : decode cX7_marked 39 = .ok (.iload 5, 2) := dz1 (k := 7) (m := 2) dza0_cX7_marked_32 di_101 (Nat.zero_lt_succ _) rfl
theorem dX7_marked_41 : decode cX7_marked 41 = .ok (.ishl, 1) := dz1 (k := 9) (m := 1) dza0_cX7_marked_32 di_12 (Nat.zero_lt_succ _) rfl
theorem dX7_marked_42 : decode cX7_marked 42 = .ok (.ior, 1) := dz1 (k := 10) (m := 1) dza0_cX7_marked_32 di_62 (Nat.zero_lt_succ _) rfl
theorem dX7_marked_43 : decode cX7_marked 43 = .ok (.istore 4, 2) := dz1 (k := 11) (m := 2) dza0_cX7_marked_32 di_51 (Nat.zero_lt_succ _) rfl
theorem dX7_marked_45 : decode cX7_marked 45 = .ok (.iinc 5 1, 3) := dz1 (k := 13) (m := 3) dza0_cX7_marked_32 di_131 (Nat.zero_lt_succ _) rfl
theorem dX7_marked_48 : decode cX7_marked 48 = .ok (.goto (-31), 3) := dz1 (k := 16) (m := 3) dza0_cX7_marked_32 di_169 (Nat.zero_lt_succ _) rfl
theorem dX7_marked_51 : decode cX7_marked 51 = .ok (.iload 4, 2) := dz1 (k := 19) (m := 2) dza0_cX7_marked_32 di_52 (Nat.zero_lt_succ _) rfl
theorem dX7_marked_53 : decode cX7_marked 53 = .ok (.ireturn, 1) := dz1 (k := 21) (m := 1) dza0_cX7_marked_32 di_13 (Nat.zero_lt_succ _) rfl
set_option maxRecDepth 100000 in
theorem dza0_cX7_wholeOnes_0 : DzLies cX7_wholeOnes (.mk ⟨[0x03, 0x3c, 0x03, 0x3d, 0x1c, 0x2a, 0xb4, 0x00, 0x33, 0xa2, 0x00, 0x17, 0x2a, 0x1c, 0xb6, 0x00, 0x38, 0xc1, 0x00, 0x0c, 0x99, 0x00, 0x06, 0x84, 0x01, 0x01, 0x84, 0x02, 0x01, 0xa7, 0xff, 0xe7]⟩) 0 := dz_lies (m := 32) (Nat.zero_lt_succ _) rfl
theorem dX7_wholeOnes_0 : decode cX7_wholeOnes 0 = .ok (.iconst 0, 1) := dz1 (k := 0) (m := 1) dza0_cX7_wholeOnes_0 di_8 (Nat.zero_lt_succ _) rfl
theorem dX7_wholeOnes_1 : decode cX7_wholeOnes 1 = .ok (.istore_n 1, 1) := dz1 (k := 1) (m := 1) dza0_cX7_wholeOnes_0 di_68 (Nat.zero_lt_succ _) rfl
theorem dX7_wholeOnes_2 : decode cX7_wholeOnes 2 = .ok (.iconst 0, 1) := dz1 (k := 2) (m := 1) dza0_cX7_wholeOnes_0 di_8 (Nat.zero_lt_succ _) rfl
theorem dX7_wholeOnes_3 : decode cX7_wholeOnes 3 = .ok (.istore_n 2, 1) := dz1 (k := 3) (m := 1) dza0_cX7_wholeOnes_0 di_27 (Nat.zero_lt_succ _) rfl
theorem dX7_wholeOnes_4 : decode cX7_wholeOnes 4 = .ok (.iload_n 2, 1) := dz1 (k := 4) (m := 1) dza0_cX7_wholeOnes_0 di_28 (Nat.zero_lt_succ _) rfl
theorem dX7_wholeOnes_5 : decode cX7_wholeOnes 5 = .ok (.aload_n 0, 1) := dz1 (k := 5) (m := 1) dza0_cX7_wholeOnes_0 di_0 (Nat.zero_lt_succ _) rfl
theorem dX7_wholeOnes_6 : decode cX7_wholeOnes 6 = .ok (.getfield 51, 3) := dz1 (k := 6) (m := 3) dza0_cX7_wholeOnes_0 di_155 (Nat.zero_lt_succ _) rfl
theorem dX7_wholeOnes_9 : decode cX7_wholeOnes 9 = .ok (.if_icmp .ge 23, 3) := dz1 (k := 9) (m := 3) dza0_cX7_wholeOnes_0 di_20 (Nat.zero_lt_succ _) rfl
theorem dX7_wholeOnes_12 : decode cX7_wholeOnes 12 = .ok (.aload_n 0, 1) := dz1 (k := 12) (m := 1) dza0_cX7_wholeOnes_0 di_0 (Nat.zero_lt_succ _) rfl
theorem dX7_wholeOnes_13 : decode cX7_wholeOnes 13 = .ok (.iload_n 2, 1) := dz1 (k := 13) (m := 1) dza0_cX7_wholeOnes_0 di_28 (Nat.zero_lt_succ _) rfl
theorem dX7_wholeOnes_14 : decode cX7_wholeOnes 14 = .ok (.invokevirtual 56, 3) := dz1 (k := 14) (m := 3) dza0_cX7_wholeOnes_0 di_60 (Nat.zero_lt_succ _) rfl
theorem dX7_wholeOnes_17 : decode cX7_wholeOnes 17 = .ok (.instanceof 12, 3) := dz1 (k := 17) (m := 3) dza0_cX7_wholeOnes_0 di_170 (Nat.zero_lt_succ _) rfl
theorem dX7_wholeOnes_20 : decode cX7_wholeOnes 20 = .ok (.ifCond .eq 6, 3) := dz1 (k := 20) (m := 3) dza0_cX7_wholeOnes_0 di_171 (Nat.zero_lt_succ _) rfl
theorem dX7_wholeOnes_23 : decode cX7_wholeOnes 23 = .ok (.iinc 1 1, 3) := dz1 (k := 23) (m := 3) dza0_cX7_wholeOnes_0 di_111 (Nat.zero_lt_succ _) rfl
theorem dX7_wholeOnes_26 : decode cX7_wholeOnes 26 = .ok (.iinc 2 1, 3) := dz1 (k := 26) (m := 3) dza0_cX7_wholeOnes_0 di_31 (Nat.zero_lt_succ _) rfl
theorem dX7_wholeOnes_29 : decode cX7_wholeOnes 29 = .ok (.goto (-25), 3) := dz1 (k := 29) (m := 3) dza0_cX7_wholeOnes_0 di_172 (Nat.zero_lt_succ _) rfl
set_option maxRecDepth 100000 in
theorem dza0_cX7_wholeOnes_32 : DzLies cX7_wholeOnes (.mk ⟨[0x1b, 0xac]⟩) 32 := dz_lies (m := 2) (Nat.zero_lt_succ _) rfl
theorem dX7_wholeOnes_32 : decode cX7_wholeOnes 32 = .ok (.iload_n 1, 1) := dz1 (k := 0) (m := 1) dza0_cX7_wholeOnes_32 di_11 (Nat.zero_lt_succ _) rfl
theorem dX7_wholeOnes_33 : decode cX7_wholeOnes 33 = .ok (.ireturn, 1) := dz1 (k := 1) (m := 1) dza0_cX7_wholeOnes_32 di_13 (Nat.zero_lt_succ _) rfl
set_option maxRecDepth 100000 in
theorem dza0_cX7_deafOnes_0 : DzLies cX7_deafOnes (.mk ⟨[0x03, 0x3c, 0x03, 0x3d, 0x1c, 0x2a, 0xb4, 0x00, 0x33, 0xa2, 0x00, 0x17, 0x2a, 0x1c, 0xb6, 0x00, 0x38, 0xc1, 0x00, 0x0f, 0x99, 0x00, 0x06, 0x84, 0x01, 0x01, 0x84, 0x02, 0x01, 0xa7, 0xff, 0xe7]⟩) 0 := dz_lies (m := 32) (Nat.zero_lt_succ _) rfl
theorem dX7_deafOnes_0 : decode cX7_deafOnes 0 = .ok (.iconst 0, 1) := dz1 (k := 0) (m := 1) dza0_cX7_deafOnes_0 di_8 (Nat.zero_lt_succ _) rfl
theorem dX7_deafOnes_1 : decode cX7_deafOnes 1 = .ok (.istore_n 1, 1) := dz1 (k := 1) (m := 1) dza0_cX7_deafOnes_0 di_68 (Nat.zero_lt_succ _) rfl
theorem dX7_deafOnes_2 : decode cX7_deafOnes 2 = .ok (.iconst 0, 1) := dz1 (k := 2) (m := 1) dza0_cX7_deafOnes_0 di_8 (Nat.zero_lt_succ _) rfl
theorem dX7_deafOnes_3 : decode cX7_deafOnes 3 = .ok (.istore_n 2, 1) := dz1 (k := 3) (m := 1) dza0_cX7_deafOnes_0 di_27 (Nat.zero_lt_succ _) rfl
theorem dX7_deafOnes_4 : decode cX7_deafOnes 4 = .ok (.iload_n 2, 1) := dz1 (k := 4) (m := 1) dza0_cX7_deafOnes_0 di_28 (Nat.zero_lt_succ _) rfl
theorem dX7_deafOnes_5 : decode cX7_deafOnes 5 = .ok (.aload_n 0, 1) := dz1 (k := 5) (m := 1) dza0_cX7_deafOnes_0 di_0 (Nat.zero_lt_succ _) rfl
theorem dX7_deafOnes_6 : decode cX7_deafOnes 6 = .ok (.getfield 51, 3) := dz1 (k := 6) (m := 3) dza0_cX7_deafOnes_0 di_155 (Nat.zero_lt_succ _) rfl
theorem dX7_deafOnes_9 : decode cX7_deafOnes 9 = .ok (.if_icmp .ge 23, 3) := dz1 (k := 9) (m := 3) dza0_cX7_deafOnes_0 di_20 (Nat.zero_lt_succ _) rfl
theorem dX7_deafOnes_12 : decode cX7_deafOnes 12 = .ok (.aload_n 0, 1) := dz1 (k := 12) (m := 1) dza0_cX7_deafOnes_0 di_0 (Nat.zero_lt_succ _) rfl
theorem dX7_deafOnes_13 : decode cX7_deafOnes 13 = .ok (.iload_n 2, 1) := dz1 (k := 13) (m := 1) dza0_cX7_deafOnes_0 di_28 (Nat.zero_lt_succ _) rfl
theorem dX7_deafOnes_14 : decode cX7_deafOnes 14 = .ok (.invokevirtual 56, 3) := dz1 (k := 14) (m := 3) dza0_cX7_deafOnes_0 di_60 (Nat.zero_lt_succ _) rfl
theorem dX7_deafOnes_17 : decode cX7_deafOnes 17 = .ok (.instanceof 15, 3) := dz1 (k := 17) (m := 3) dza0_cX7_deafOnes_0 di_173 (Nat.zero_lt_succ _) rfl
theorem dX7_deafOnes_20 : decode cX7_deafOnes 20 = .ok (.ifCond .eq 6, 3) := dz1 (k := 20) (m := 3) dza0_cX7_deafOnes_0 di_171 (Nat.zero_lt_succ _) rfl
theorem dX7_deafOnes_23 : decode cX7_deafOnes 23 = .ok (.iinc 1 1, 3) := dz1 (k := 23) (m := 3) dza0_cX7_deafOnes_0 di_111 (Nat.zero_lt_succ _) rfl
theorem dX7_deafOnes_26 : decode cX7_deafOnes 26 = .ok (.iinc 2 1, 3) := dz1 (k := 26) (m := 3) dza0_cX7_deafOnes_0 di_31 (Nat.zero_lt_succ _) rfl
theorem dX7_deafOnes_29 : decode cX7_deafOnes 29 = .ok (.goto (-25), 3) := dz1 (k := 29) (m := 3) dza0_cX7_deafOnes_0 di_172 (Nat.zero_lt_succ _) rfl
set_option maxRecDepth 100000 in
theorem dza0_cX7_deafOnes_32 : DzLies cX7_deafOnes (.mk ⟨[0x1b, 0xac]⟩) 32 := dz_lies (m := 2) (Nat.zero_lt_succ _) rfl
theorem dX7_deafOnes_32 : decode cX7_deafOnes 32 = .ok (.iload_n 1, 1) := dz1 (k := 0) (m := 1) dza0_cX7_deafOnes_32 di_11 (Nat.zero_lt_succ _) rfl
theorem dX7_deafOnes_33 : decode cX7_deafOnes 33 = .ok (.ireturn, 1) := dz1 (k := 1) (m := 1) dza0_cX7_deafOnes_32 di_13 (Nat.zero_lt_succ _) rfl
set_option maxRecDepth 100000 in
theorem dza0_cX8_init_0 : DzLies cX8_init (.mk ⟨[0x2a, 0xb7, 0x00, 0x03, 0xb1]⟩) 0 := dz_lies (m := 5) (Nat.zero_lt_succ _) rfl
theorem dX8_init_0 : decode cX8_init 0 = .ok (.aload_n 0, 1) := dz1 (k := 0) (m := 1) dza0_cX8_init_0 di_0 (Nat.zero_lt_succ _) rfl
theorem dX8_init_1 : decode cX8_init 1 = .ok (.invokespecial 3, 3) := dz1 (k := 1) (m := 3) dza0_cX8_init_0 di_15 (Nat.zero_lt_succ _) rfl
theorem dX8_init_4 : decode cX8_init 4 = .ok (.return_, 1) := dz1 (k := 4) (m := 1) dza0_cX8_init_0 di_2 (Nat.zero_lt_succ _) rfl
set_option maxRecDepth 100000 in
theorem dza0_cX8_heard_0 : DzLies cX8_heard (.mk ⟨[0x2a, 0x1b, 0x1c, 0x1d, 0xb7, 0x00, 0x09, 0x36, 0x04, 0x15, 0x04, 0x9a, 0x00, 0x07, 0x03, 0xa7, 0x00, 0x0c, 0x15, 0x04, 0x04, 0x1b, 0xb8, 0x00, 0x0d, 0x78, 0x80, 0xac]⟩) 0 := dz_lies (m := 28) (Nat.zero_lt_succ _) rfl
theorem dX8_heard_0 : decode cX8_heard 0 = .ok (.aload_n 0, 1) := dz1 (k := 0) (m := 1) dza0_cX8_heard_0 di_0 (Nat.zero_lt_succ _) rfl
theorem dX8_heard_1 : decode cX8_heard 1 = .ok (.iload_n 1, 1) := dz1 (k := 1) (m := 1) dza0_cX8_heard_0 di_11 (Nat.zero_lt_succ _) rfl
theorem dX8_heard_2 : decode cX8_heard 2 = .ok (.iload_n 2, 1) := dz1 (k := 2) (m := 1) dza0_cX8_heard_0 di_28 (Nat.zero_lt_succ _) rfl
theorem dX8_heard_3 : decode cX8_heard 3 = .ok (.iload_n 3, 1) := dz1 (k := 3) (m := 1) dza0_cX8_heard_0 di_3 (Nat.zero_lt_succ _) rfl
theorem dX8_heard_4 : decode cX8_heard 4 = .ok (.invokespecial 9, 3) := dz1 (k := 4) (m := 3) dza0_cX8_heard_0 di_174 (Nat.zero_lt_succ _) rfl
theorem dX8_heard_7 : decode cX8_heard 7 = .ok (.istore 4, 2) := dz1 (k := 7) (m := 2) dza0_cX8_heard_0 di_51 (Nat.zero_lt_succ _) rfl
theorem dX8_heard_9 : decode cX8_heard 9 = .ok (.iload 4, 2) := dz1 (k := 9) (m := 2) dza0_cX8_heard_0 di_52 (Nat.zero_lt_succ _) rfl
theorem dX8_heard_11 : decode cX8_heard 11 = .ok (.ifCond .ne 7, 3) := dz1 (k := 11) (m := 3) dza0_cX8_heard_0 di_37 (Nat.zero_lt_succ _) rfl
theorem dX8_heard_14 : decode cX8_heard 14 = .ok (.iconst 0, 1) := dz1 (k := 14) (m := 1) dza0_cX8_heard_0 di_8 (Nat.zero_lt_succ _) rfl
theorem dX8_heard_15 : decode cX8_heard 15 = .ok (.goto 12, 3) := dz1 (k := 15) (m := 3) dza0_cX8_heard_0 di_175 (Nat.zero_lt_succ _) rfl
theorem dX8_heard_18 : decode cX8_heard 18 = .ok (.iload 4, 2) := dz1 (k := 18) (m := 2) dza0_cX8_heard_0 di_52 (Nat.zero_lt_succ _) rfl
theorem dX8_heard_20 : decode cX8_heard 20 = .ok (.iconst 1, 1) := dz1 (k := 20) (m := 1) dza0_cX8_heard_0 di_10 (Nat.zero_lt_succ _) rfl
theorem dX8_heard_21 : decode cX8_heard 21 = .ok (.iload_n 1, 1) := dz1 (k := 21) (m := 1) dza0_cX8_heard_0 di_11 (Nat.zero_lt_succ _) rfl
theorem dX8_heard_22 : decode cX8_heard 22 = .ok (.invokestatic 13, 3) := dz1 (k := 22) (m := 3) dza0_cX8_heard_0 di_75 (Nat.zero_lt_succ _) rfl
theorem dX8_heard_25 : decode cX8_heard 25 = .ok (.ishl, 1) := dz1 (k := 25) (m := 1) dza0_cX8_heard_0 di_12 (Nat.zero_lt_succ _) rfl
theorem dX8_heard_26 : decode cX8_heard 26 = .ok (.ior, 1) := dz1 (k := 26) (m := 1) dza0_cX8_heard_0 di_62 (Nat.zero_lt_succ _) rfl
theorem dX8_heard_27 : decode cX8_heard 27 = .ok (.ireturn, 1) := dz1 (k := 27) (m := 1) dza0_cX8_heard_0 di_13 (Nat.zero_lt_succ _) rfl
set_option maxRecDepth 100000 in
theorem dza0_cX8_behind_0 : DzLies cX8_behind (.mk ⟨[0x1a, 0x10, 0x0c, 0x70, 0x04, 0x60, 0xac]⟩) 0 := dz_lies (m := 7) (Nat.zero_lt_succ _) rfl
theorem dX8_behind_0 : decode cX8_behind 0 = .ok (.iload_n 0, 1) := dz1 (k := 0) (m := 1) dza0_cX8_behind_0 di_109 (Nat.zero_lt_succ _) rfl
theorem dX8_behind_1 : decode cX8_behind 1 = .ok (.bipush 12, 2) := dz1 (k := 1) (m := 2) dza0_cX8_behind_0 di_126 (Nat.zero_lt_succ _) rfl
theorem dX8_behind_3 : decode cX8_behind 3 = .ok (.irem, 1) := dz1 (k := 3) (m := 1) dza0_cX8_behind_0 di_5 (Nat.zero_lt_succ _) rfl
theorem dX8_behind_4 : decode cX8_behind 4 = .ok (.iconst 1, 1) := dz1 (k := 4) (m := 1) dza0_cX8_behind_0 di_10 (Nat.zero_lt_succ _) rfl
theorem dX8_behind_5 : decode cX8_behind 5 = .ok (.iadd, 1) := dz1 (k := 5) (m := 1) dza0_cX8_behind_0 di_24 (Nat.zero_lt_succ _) rfl
theorem dX8_behind_6 : decode cX8_behind 6 = .ok (.ireturn, 1) := dz1 (k := 6) (m := 1) dza0_cX8_behind_0 di_13 (Nat.zero_lt_succ _) rfl
set_option maxRecDepth 100000 in
theorem dza0_cX8_pairsOn_0 : DzLies cX8_pairsOn (.mk ⟨[0x03, 0x3d, 0x04, 0x3e, 0x1d, 0x10, 0x0c, 0xa3, 0x00, 0x21, 0x1b, 0x1d, 0x7a, 0x04, 0x7e, 0x04, 0xa0, 0x00, 0x12, 0x1b, 0x1d, 0xb8, 0x00, 0x0d, 0x7a, 0x04, 0x7e, 0x04, 0xa0, 0x00, 0x06, 0x84, 0x02, 0x01]⟩) 0 := dz_lies (m := 34) (Nat.zero_lt_succ _) rfl
theorem dX8_pairsOn_0 : decode cX8_pairsOn 0 = .ok (.iconst 0, 1) := dz1 (k := 0) (m := 1) dza0_cX8_pairsOn_0 di_8 (Nat.zero_lt_succ _) rfl
theorem dX8_pairsOn_1 : decode cX8_pairsOn 1 = .ok (.istore_n 2, 1) := dz1 (k := 1) (m := 1) dza0_cX8_pairsOn_0 di_27 (Nat.zero_lt_succ _) rfl
theorem dX8_pairsOn_2 : decode cX8_pairsOn 2 = .ok (.iconst 1, 1) := dz1 (k := 2) (m := 1) dza0_cX8_pairsOn_0 di_10 (Nat.zero_lt_succ _) rfl
theorem dX8_pairsOn_3 : decode cX8_pairsOn 3 = .ok (.istore_n 3, 1) := dz1 (k := 3) (m := 1) dza0_cX8_pairsOn_0 di_50 (Nat.zero_lt_succ _) rfl
theorem dX8_pairsOn_4 : decode cX8_pairsOn 4 = .ok (.iload_n 3, 1) := dz1 (k := 4) (m := 1) dza0_cX8_pairsOn_0 di_3 (Nat.zero_lt_succ _) rfl
theorem dX8_pairsOn_5 : decode cX8_pairsOn 5 = .ok (.bipush 12, 2) := dz1 (k := 5) (m := 2) dza0_cX8_pairsOn_0 di_126 (Nat.zero_lt_succ _) rfl
theorem dX8_pairsOn_7 : decode cX8_pairsOn 7 = .ok (.if_icmp .gt 33, 3) := dz1 (k := 7) (m := 3) dza0_cX8_pairsOn_0 di_176 (Nat.zero_lt_succ _) rfl
theorem dX8_pairsOn_10 : decode cX8_pairsOn 10 = .ok (.iload_n 1, 1) := dz1 (k := 10) (m := 1) dza0_cX8_pairsOn_0 di_11 (Nat.zero_lt_succ _) rfl
theorem dX8_pairsOn_11 : decode cX8_pairsOn 11 = .ok (.iload_n 3, 1) := dz1 (k := 11) (m := 1) dza0_cX8_pairsOn_0 di_3 (Nat.zero_lt_succ _) rfl
theorem dX8_pairsOn_12 : decode cX8_pairsOn 12 = .ok (.ishr, 1) := dz1 (k := 12) (m := 1) dza0_cX8_pairsOn_0 di_47 (Nat.zero_lt_succ _) rfl
theorem dX8_pairsOn_13 : decode cX8_pairsOn 13 = .ok (.iconst 1, 1) := dz1 (k := 13) (m := 1) dza0_cX8_pairsOn_0 di_10 (Nat.zero_lt_succ _) rfl
theorem dX8_pairsOn_14 : decode cX8_pairsOn 14 = .ok (.iand, 1) := dz1 (k := 14) (m := 1) dza0_cX8_pairsOn_0 di_48 (Nat.zero_lt_succ _) rfl
theorem dX8_pairsOn_15 : decode cX8_pairsOn 15 = .ok (.iconst 1, 1) := dz1 (k := 15) (m := 1) dza0_cX8_pairsOn_0 di_10 (Nat.zero_lt_succ _) rfl
theorem dX8_pairsOn_16 : decode cX8_pairsOn 16 = .ok (.if_icmp .ne 18, 3) := dz1 (k := 16) (m := 3) dza0_cX8_pairsOn_0 di_177 (Nat.zero_lt_succ _) rfl
theorem dX8_pairsOn_19 : decode cX8_pairsOn 19 = .ok (.iload_n 1, 1) := dz1 (k := 19) (m := 1) dza0_cX8_pairsOn_0 di_11 (Nat.zero_lt_succ _) rfl
theorem dX8_pairsOn_20 : decode cX8_pairsOn 20 = .ok (.iload_n 3, 1) := dz1 (k := 20) (m := 1) dza0_cX8_pairsOn_0 di_3 (Nat.zero_lt_succ _) rfl
theorem dX8_pairsOn_21 : decode cX8_pairsOn 21 = .ok (.invokestatic 13, 3) := dz1 (k := 21) (m := 3) dza0_cX8_pairsOn_0 di_75 (Nat.zero_lt_succ _) rfl
theorem dX8_pairsOn_24 : decode cX8_pairsOn 24 = .ok (.ishr, 1) := dz1 (k := 24) (m := 1) dza0_cX8_pairsOn_0 di_47 (Nat.zero_lt_succ _) rfl
theorem dX8_pairsOn_25 : decode cX8_pairsOn 25 = .ok (.iconst 1, 1) := dz1 (k := 25) (m := 1) dza0_cX8_pairsOn_0 di_10 (Nat.zero_lt_succ _) rfl
theorem dX8_pairsOn_26 : decode cX8_pairsOn 26 = .ok (.iand, 1) := dz1 (k := 26) (m := 1) dza0_cX8_pairsOn_0 di_48 (Nat.zero_lt_succ _) rfl
theorem dX8_pairsOn_27 : decode cX8_pairsOn 27 = .ok (.iconst 1, 1) := dz1 (k := 27) (m := 1) dza0_cX8_pairsOn_0 di_10 (Nat.zero_lt_succ _) rfl
theorem dX8_pairsOn_28 : decode cX8_pairsOn 28 = .ok (.if_icmp .ne 6, 3) := dz1 (k := 28) (m := 3) dza0_cX8_pairsOn_0 di_128 (Nat.zero_lt_succ _) rfl
theorem dX8_pairsOn_31 : decode cX8_pairsOn 31 = .ok (.iinc 2 1, 3) := dz1 (k := 31) (m := 3) dza0_cX8_pairsOn_0 di_31 (Nat.zero_lt_succ _) rfl
set_option maxRecDepth 100000 in
theorem dza0_cX8_pairsOn_32 : DzLies cX8_pairsOn (.mk ⟨[0x02, 0x01, 0x84, 0x03, 0x01, 0xa7, 0xff, 0xdf, 0x1c, 0xac]⟩) 32 := dz_lies (m := 10) (Nat.zero_lt_succ _) rfl
theorem dX8_pairsOn_34 : decode cX8_pairsOn 34 = .ok (.iinc 3 1, 3) := dz1 (k := 2) (m := 3) dza0_cX8_pairsOn_32 di_94 (Nat.zero_lt_succ _) rfl
theorem dX8_pairsOn_37 : decode cX8_pairsOn 37 = .ok (.goto (-33), 3) := dz1 (k := 5) (m := 3) dza0_cX8_pairsOn_32 di_178 (Nat.zero_lt_succ _) rfl
theorem dX8_pairsOn_40 : decode cX8_pairsOn 40 = .ok (.iload_n 2, 1) := dz1 (k := 8) (m := 1) dza0_cX8_pairsOn_32 di_28 (Nat.zero_lt_succ _) rfl
theorem dX8_pairsOn_41 : decode cX8_pairsOn 41 = .ok (.ireturn, 1) := dz1 (k := 9) (m := 1) dza0_cX8_pairsOn_32 di_13 (Nat.zero_lt_succ _) rfl
set_option maxRecDepth 100000 in
theorem dza0_cX9_init_0 : DzLies cX9_init (.mk ⟨[0x2a, 0xb7, 0x00, 0x03, 0xb1]⟩) 0 := dz_lies (m := 5) (Nat.zero_lt_succ _) rfl
theorem dX9_init_0 : decode cX9_init 0 = .ok (.aload_n 0, 1) := dz1 (k := 0) (m := 1) dza0_cX9_init_0 di_0 (Nat.zero_lt_succ _) rfl
theorem dX9_init_1 : decode cX9_init 1 = .ok (.invokespecial 3, 3) := dz1 (k := 1) (m := 3) dza0_cX9_init_0 di_15 (Nat.zero_lt_succ _) rfl
theorem dX9_init_4 : decode cX9_init 4 = .ok (.return_, 1) := dz1 (k := 4) (m := 1) dza0_cX9_init_0 di_2 (Nat.zero_lt_succ _) rfl
set_option maxRecDepth 100000 in
theorem dza0_cX9_lacks_0 : DzLies cX9_lacks (.mk ⟨[0x10, 0x06, 0x2a, 0x1b, 0xb6, 0x00, 0x09, 0x64, 0x2a, 0x1b, 0xb6, 0x00, 0x0f, 0x64, 0xac]⟩) 0 := dz_lies (m := 15) (Nat.zero_lt_succ _) rfl
theorem dX9_lacks_0 : decode cX9_lacks 0 = .ok (.bipush 6, 2) := dz1 (k := 0) (m := 2) dza0_cX9_lacks_0 di_86 (Nat.zero_lt_succ _) rfl
theorem dX9_lacks_2 : decode cX9_lacks 2 = .ok (.aload_n 0, 1) := dz1 (k := 2) (m := 1) dza0_cX9_lacks_0 di_0 (Nat.zero_lt_succ _) rfl
theorem dX9_lacks_3 : decode cX9_lacks 3 = .ok (.iload_n 1, 1) := dz1 (k := 3) (m := 1) dza0_cX9_lacks_0 di_11 (Nat.zero_lt_succ _) rfl
theorem dX9_lacks_4 : decode cX9_lacks 4 = .ok (.invokevirtual 9, 3) := dz1 (k := 4) (m := 3) dza0_cX9_lacks_0 di_80 (Nat.zero_lt_succ _) rfl
theorem dX9_lacks_7 : decode cX9_lacks 7 = .ok (.isub, 1) := dz1 (k := 7) (m := 1) dza0_cX9_lacks_0 di_14 (Nat.zero_lt_succ _) rfl
theorem dX9_lacks_8 : decode cX9_lacks 8 = .ok (.aload_n 0, 1) := dz1 (k := 8) (m := 1) dza0_cX9_lacks_0 di_0 (Nat.zero_lt_succ _) rfl
theorem dX9_lacks_9 : decode cX9_lacks 9 = .ok (.iload_n 1, 1) := dz1 (k := 9) (m := 1) dza0_cX9_lacks_0 di_11 (Nat.zero_lt_succ _) rfl
theorem dX9_lacks_10 : decode cX9_lacks 10 = .ok (.invokevirtual 15, 3) := dz1 (k := 10) (m := 3) dza0_cX9_lacks_0 di_81 (Nat.zero_lt_succ _) rfl
theorem dX9_lacks_13 : decode cX9_lacks 13 = .ok (.isub, 1) := dz1 (k := 13) (m := 1) dza0_cX9_lacks_0 di_14 (Nat.zero_lt_succ _) rfl
theorem dX9_lacks_14 : decode cX9_lacks 14 = .ok (.ireturn, 1) := dz1 (k := 14) (m := 1) dza0_cX9_lacks_0 di_13 (Nat.zero_lt_succ _) rfl
set_option maxRecDepth 100000 in
theorem dza0_cJ6_bitCount_0f7a4_0 : DzLies cJ6_bitCount_0f7a4 (.mk ⟨[0x1a, 0x1a, 0x04, 0x7c, 0x13, 0x01, 0x09, 0x7e, 0x64, 0x3b, 0x1a, 0x13, 0x01, 0x0a, 0x7e, 0x1a, 0x05, 0x7c, 0x13, 0x01, 0x0a, 0x7e, 0x60, 0x3b, 0x1a, 0x1a, 0x07, 0x7c, 0x60, 0x13, 0x01, 0x0b]⟩) 0 := dz_lies (m := 32) (Nat.zero_lt_succ _) rfl
theorem dJ6_bitCount_0f7a4_0 : decode cJ6_bitCount_0f7a4 0 = .ok (.iload_n 0, 1) := dz1 (k := 0) (m := 1) dza0_cJ6_bitCount_0f7a4_0 di_109 (Nat.zero_lt_succ _) rfl
theorem dJ6_bitCount_0f7a4_1 : decode cJ6_bitCount_0f7a4 1 = .ok (.iload_n 0, 1) := dz1 (k := 1) (m := 1) dza0_cJ6_bitCount_0f7a4_0 di_109 (Nat.zero_lt_succ _) rfl
theorem dJ6_bitCount_0f7a4_2 : decode cJ6_bitCount_0f7a4 2 = .ok (.iconst 1, 1) := dz1 (k := 2) (m := 1) dza0_cJ6_bitCount_0f7a4_0 di_10 (Nat.zero_lt_succ _) rfl
theorem dJ6_bitCount_0f7a4_3 : decode cJ6_bitCount_0f7a4 3 = .ok (.iushr, 1) := dz1 (k := 3) (m := 1) dza0_cJ6_bitCount_0f7a4_0 di_179 (Nat.zero_lt_succ _) rfl
theorem dJ6_bitCount_0f7a4_4 : decode cJ6_bitCount_0f7a4 4 = .ok (.ldc_w 265, 3) := dz1 (k := 4) (m := 3) dza0_cJ6_bitCount_0f7a4_0 di_180 (Nat.zero_lt_succ _) rfl
theorem dJ6_bitCount_0f7a4_7 : decode cJ6_bitCount_0f7a4 7 = .ok (.iand, 1) := dz1 (k := 7) (m := 1) dza0_cJ6_bitCount_0f7a4_0 di_48 (Nat.zero_lt_succ _) rfl
theorem dJ6_bitCount_0f7a4_8 : decode cJ6_bitCount_0f7a4 8 = .ok (.isub, 1) := dz1 (k := 8) (m := 1) dza0_cJ6_bitCount_0f7a4_0 di_14 (Nat.zero_lt_succ _) rfl
theorem dJ6_bitCount_0f7a4_9 : decode cJ6_bitCount_0f7a4 9 = .ok (.istore_n 0, 1) := dz1 (k := 9) (m := 1) dza0_cJ6_bitCount_0f7a4_0 di_181 (Nat.zero_lt_succ _) rfl
theorem dJ6_bitCount_0f7a4_10 : decode cJ6_bitCount_0f7a4 10 = .ok (.iload_n 0, 1) := dz1 (k := 10) (m := 1) dza0_cJ6_bitCount_0f7a4_0 di_109 (Nat.zero_lt_succ _) rfl
theorem dJ6_bitCount_0f7a4_11 : decode cJ6_bitCount_0f7a4 11 = .ok (.ldc_w 266, 3) := dz1 (k := 11) (m := 3) dza0_cJ6_bitCount_0f7a4_0 di_182 (Nat.zero_lt_succ _) rfl
theorem dJ6_bitCount_0f7a4_14 : decode cJ6_bitCount_0f7a4 14 = .ok (.iand, 1) := dz1 (k := 14) (m := 1) dza0_cJ6_bitCount_0f7a4_0 di_48 (Nat.zero_lt_succ _) rfl
theorem dJ6_bitCount_0f7a4_15 : decode cJ6_bitCount_0f7a4 15 = .ok (.iload_n 0, 1) := dz1 (k := 15) (m := 1) dza0_cJ6_bitCount_0f7a4_0 di_109 (Nat.zero_lt_succ _) rfl
theorem dJ6_bitCount_0f7a4_16 : decode cJ6_bitCount_0f7a4 16 = .ok (.iconst 2, 1) := dz1 (k := 16) (m := 1) dza0_cJ6_bitCount_0f7a4_0 di_6 (Nat.zero_lt_succ _) rfl
theorem dJ6_bitCount_0f7a4_17 : decode cJ6_bitCount_0f7a4 17 = .ok (.iushr, 1) := dz1 (k := 17) (m := 1) dza0_cJ6_bitCount_0f7a4_0 di_179 (Nat.zero_lt_succ _) rfl
theorem dJ6_bitCount_0f7a4_18 : decode cJ6_bitCount_0f7a4 18 = .ok (.ldc_w 266, 3) := dz1 (k := 18) (m := 3) dza0_cJ6_bitCount_0f7a4_0 di_182 (Nat.zero_lt_succ _) rfl
theorem dJ6_bitCount_0f7a4_21 : decode cJ6_bitCount_0f7a4 21 = .ok (.iand, 1) := dz1 (k := 21) (m := 1) dza0_cJ6_bitCount_0f7a4_0 di_48 (Nat.zero_lt_succ _) rfl
theorem dJ6_bitCount_0f7a4_22 : decode cJ6_bitCount_0f7a4 22 = .ok (.iadd, 1) := dz1 (k := 22) (m := 1) dza0_cJ6_bitCount_0f7a4_0 di_24 (Nat.zero_lt_succ _) rfl
theorem dJ6_bitCount_0f7a4_23 : decode cJ6_bitCount_0f7a4 23 = .ok (.istore_n 0, 1) := dz1 (k := 23) (m := 1) dza0_cJ6_bitCount_0f7a4_0 di_181 (Nat.zero_lt_succ _) rfl
theorem dJ6_bitCount_0f7a4_24 : decode cJ6_bitCount_0f7a4 24 = .ok (.iload_n 0, 1) := dz1 (k := 24) (m := 1) dza0_cJ6_bitCount_0f7a4_0 di_109 (Nat.zero_lt_succ _) rfl
theorem dJ6_bitCount_0f7a4_25 : decode cJ6_bitCount_0f7a4 25 = .ok (.iload_n 0, 1) := dz1 (k := 25) (m := 1) dza0_cJ6_bitCount_0f7a4_0 di_109 (Nat.zero_lt_succ _) rfl
theorem dJ6_bitCount_0f7a4_26 : decode cJ6_bitCount_0f7a4 26 = .ok (.iconst 4, 1) := dz1 (k := 26) (m := 1) dza0_cJ6_bitCount_0f7a4_0 di_33 (Nat.zero_lt_succ _) rfl
theorem dJ6_bitCount_0f7a4_27 : decode cJ6_bitCount_0f7a4 27 = .ok (.iushr, 1) := dz1 (k := 27) (m := 1) dza0_cJ6_bitCount_0f7a4_0 di_179 (Nat.zero_lt_succ _) rfl
theorem dJ6_bitCount_0f7a4_28 : decode cJ6_bitCount_0f7a4 28 = .ok (.iadd, 1) := dz1 (k := 28) (m := 1) dza0_cJ6_bitCount_0f7a4_0 di_24 (Nat.zero_lt_succ _) rfl
theorem dJ6_bitCount_0f7a4_29 : decode cJ6_bitCount_0f7a4 29 = .ok (.ldc_w 267, 3) := dz1 (k := 29) (m := 3) dza0_cJ6_bitCount_0f7a4_0 di_183 (Nat.zero_lt_succ _) rfl
set_option maxRecDepth 100000 in
theorem dza0_cJ6_bitCount_0f7a4_32 : DzLies cJ6_bitCount_0f7a4 (.mk ⟨[0x7e, 0x3b, 0x1a, 0x1a, 0x10, 0x08, 0x7c, 0x60, 0x3b, 0x1a, 0x1a, 0x10, 0x10, 0x7c, 0x60, 0x3b, 0x1a, 0x10, 0x3f, 0x7e, 0xac]⟩) 32 := dz_lies (m := 21) (Nat.zero_lt_succ _) rfl
theorem dJ6_bitCount_0f7a4_32 : decode cJ6_bitCount_0f7a4 32 = .ok (.iand, 1) := dz1 (k := 0) (m := 1) dza0_cJ6_bitCount_0f7a4_32 di_48 (Nat.zero_lt_succ _) rfl
theorem dJ6_bitCount_0f7a4_33 : decode cJ6_bitCount_0f7a4 33 = .ok (.istore_n 0, 1) := dz1 (k := 1) (m := 1) dza0_cJ6_bitCount_0f7a4_32 di_181 (Nat.zero_lt_succ _) rfl
theorem dJ6_bitCount_0f7a4_34 : decode cJ6_bitCount_0f7a4 34 = .ok (.iload_n 0, 1) := dz1 (k := 2) (m := 1) dza0_cJ6_bitCount_0f7a4_32 di_109 (Nat.zero_lt_succ _) rfl
theorem dJ6_bitCount_0f7a4_35 : decode cJ6_bitCount_0f7a4 35 = .ok (.iload_n 0, 1) := dz1 (k := 3) (m := 1) dza0_cJ6_bitCount_0f7a4_32 di_109 (Nat.zero_lt_succ _) rfl
theorem dJ6_bitCount_0f7a4_36 : decode cJ6_bitCount_0f7a4 36 = .ok (.bipush 8, 2) := dz1 (k := 4) (m := 2) dza0_cJ6_bitCount_0f7a4_32 di_184 (Nat.zero_lt_succ _) rfl
theorem dJ6_bitCount_0f7a4_38 : decode cJ6_bitCount_0f7a4 38 = .ok (.iushr, 1) := dz1 (k := 6) (m := 1) dza0_cJ6_bitCount_0f7a4_32 di_179 (Nat.zero_lt_succ _) rfl
theorem dJ6_bitCount_0f7a4_39 : decode cJ6_bitCount_0f7a4 39 = .ok (.iadd, 1) := dz1 (k := 7) (m := 1) dza0_cJ6_bitCount_0f7a4_32 di_24 (Nat.zero_lt_succ _) rfl
theorem dJ6_bitCount_0f7a4_40 : decode cJ6_bitCount_0f7a4 40 = .ok (.istore_n 0, 1) := dz1 (k := 8) (m := 1) dza0_cJ6_bitCount_0f7a4_32 di_181 (Nat.zero_lt_succ _) rfl
theorem dJ6_bitCount_0f7a4_41 : decode cJ6_bitCount_0f7a4 41 = .ok (.iload_n 0, 1) := dz1 (k := 9) (m := 1) dza0_cJ6_bitCount_0f7a4_32 di_109 (Nat.zero_lt_succ _) rfl
theorem dJ6_bitCount_0f7a4_42 : decode cJ6_bitCount_0f7a4 42 = .ok (.iload_n 0, 1) := dz1 (k := 10) (m := 1) dza0_cJ6_bitCount_0f7a4_32 di_109 (Nat.zero_lt_succ _) rfl
theorem dJ6_bitCount_0f7a4_43 : decode cJ6_bitCount_0f7a4 43 = .ok (.bipush 16, 2) := dz1 (k := 11) (m := 2) dza0_cJ6_bitCount_0f7a4_32 di_185 (Nat.zero_lt_succ _) rfl
theorem dJ6_bitCount_0f7a4_45 : decode cJ6_bitCount_0f7a4 45 = .ok (.iushr, 1) := dz1 (k := 13) (m := 1) dza0_cJ6_bitCount_0f7a4_32 di_179 (Nat.zero_lt_succ _) rfl
theorem dJ6_bitCount_0f7a4_46 : decode cJ6_bitCount_0f7a4 46 = .ok (.iadd, 1) := dz1 (k := 14) (m := 1) dza0_cJ6_bitCount_0f7a4_32 di_24 (Nat.zero_lt_succ _) rfl
theorem dJ6_bitCount_0f7a4_47 : decode cJ6_bitCount_0f7a4 47 = .ok (.istore_n 0, 1) := dz1 (k := 15) (m := 1) dza0_cJ6_bitCount_0f7a4_32 di_181 (Nat.zero_lt_succ _) rfl
theorem dJ6_bitCount_0f7a4_48 : decode cJ6_bitCount_0f7a4 48 = .ok (.iload_n 0, 1) := dz1 (k := 16) (m := 1) dza0_cJ6_bitCount_0f7a4_32 di_109 (Nat.zero_lt_succ _) rfl
theorem dJ6_bitCount_0f7a4_49 : decode cJ6_bitCount_0f7a4 49 = .ok (.bipush 63, 2) := dz1 (k := 17) (m := 2) dza0_cJ6_bitCount_0f7a4_32 di_186 (Nat.zero_lt_succ _) rfl
theorem dJ6_bitCount_0f7a4_51 : decode cJ6_bitCount_0f7a4 51 = .ok (.iand, 1) := dz1 (k := 19) (m := 1) dza0_cJ6_bitCount_0f7a4_32 di_48 (Nat.zero_lt_succ _) rfl
theorem dJ6_bitCount_0f7a4_52 : decode cJ6_bitCount_0f7a4 52 = .ok (.ireturn, 1) := dz1 (k := 20) (m := 1) dza0_cJ6_bitCount_0f7a4_32 di_13 (Nat.zero_lt_succ _) rfl
set_option maxRecDepth 100000 in
theorem dza0_cJ9_max_7cf53_0 : DzLies cJ9_max_7cf53 (.mk ⟨[0x1a, 0x1b, 0xa1, 0x00, 0x07, 0x1a, 0xa7, 0x00, 0x04, 0x1b, 0xac]⟩) 0 := dz_lies (m := 11) (Nat.zero_lt_succ _) rfl
theorem dJ9_max_7cf53_0 : decode cJ9_max_7cf53 0 = .ok (.iload_n 0, 1) := dz1 (k := 0) (m := 1) dza0_cJ9_max_7cf53_0 di_109 (Nat.zero_lt_succ _) rfl
theorem dJ9_max_7cf53_1 : decode cJ9_max_7cf53 1 = .ok (.iload_n 1, 1) := dz1 (k := 1) (m := 1) dza0_cJ9_max_7cf53_0 di_11 (Nat.zero_lt_succ _) rfl
theorem dJ9_max_7cf53_2 : decode cJ9_max_7cf53 2 = .ok (.if_icmp .lt 7, 3) := dz1 (k := 2) (m := 3) dza0_cJ9_max_7cf53_0 di_79 (Nat.zero_lt_succ _) rfl
theorem dJ9_max_7cf53_5 : decode cJ9_max_7cf53 5 = .ok (.iload_n 0, 1) := dz1 (k := 5) (m := 1) dza0_cJ9_max_7cf53_0 di_109 (Nat.zero_lt_succ _) rfl
theorem dJ9_max_7cf53_6 : decode cJ9_max_7cf53 6 = .ok (.goto 4, 3) := dz1 (k := 6) (m := 3) dza0_cJ9_max_7cf53_0 di_49 (Nat.zero_lt_succ _) rfl
theorem dJ9_max_7cf53_9 : decode cJ9_max_7cf53 9 = .ok (.iload_n 1, 1) := dz1 (k := 9) (m := 1) dza0_cJ9_max_7cf53_0 di_11 (Nat.zero_lt_succ _) rfl
theorem dJ9_max_7cf53_10 : decode cJ9_max_7cf53 10 = .ok (.ireturn, 1) := dz1 (k := 10) (m := 1) dza0_cJ9_max_7cf53_0 di_13 (Nat.zero_lt_succ _) rfl
set_option maxRecDepth 100000 in
theorem dza0_cJ9_min_7cf53_0 : DzLies cJ9_min_7cf53 (.mk ⟨[0x1a, 0x1b, 0xa3, 0x00, 0x07, 0x1a, 0xa7, 0x00, 0x04, 0x1b, 0xac]⟩) 0 := dz_lies (m := 11) (Nat.zero_lt_succ _) rfl
theorem dJ9_min_7cf53_0 : decode cJ9_min_7cf53 0 = .ok (.iload_n 0, 1) := dz1 (k := 0) (m := 1) dza0_cJ9_min_7cf53_0 di_109 (Nat.zero_lt_succ _) rfl
theorem dJ9_min_7cf53_1 : decode cJ9_min_7cf53 1 = .ok (.iload_n 1, 1) := dz1 (k := 1) (m := 1) dza0_cJ9_min_7cf53_0 di_11 (Nat.zero_lt_succ _) rfl
theorem dJ9_min_7cf53_2 : decode cJ9_min_7cf53 2 = .ok (.if_icmp .gt 7, 3) := dz1 (k := 2) (m := 3) dza0_cJ9_min_7cf53_0 di_187 (Nat.zero_lt_succ _) rfl
theorem dJ9_min_7cf53_5 : decode cJ9_min_7cf53 5 = .ok (.iload_n 0, 1) := dz1 (k := 5) (m := 1) dza0_cJ9_min_7cf53_0 di_109 (Nat.zero_lt_succ _) rfl
theorem dJ9_min_7cf53_6 : decode cJ9_min_7cf53 6 = .ok (.goto 4, 3) := dz1 (k := 6) (m := 3) dza0_cJ9_min_7cf53_0 di_49 (Nat.zero_lt_succ _) rfl
theorem dJ9_min_7cf53_9 : decode cJ9_min_7cf53 9 = .ok (.iload_n 1, 1) := dz1 (k := 9) (m := 1) dza0_cJ9_min_7cf53_0 di_11 (Nat.zero_lt_succ _) rfl
theorem dJ9_min_7cf53_10 : decode cJ9_min_7cf53 10 = .ok (.ireturn, 1) := dz1 (k := 10) (m := 1) dza0_cJ9_min_7cf53_0 di_13 (Nat.zero_lt_succ _) rfl
set_option maxRecDepth 100000 in
theorem dza0_cJ7_fill_53178_0 : DzLies cJ7_fill_53178 (.mk ⟨[0x03, 0x3d, 0x2a, 0xbe, 0x3e, 0x1c, 0x1d, 0xa2, 0x00, 0x0d, 0x2a, 0x1c, 0x1b, 0x4f, 0x84, 0x02, 0x01, 0xa7, 0xff, 0xf4, 0xb1]⟩) 0 := dz_lies (m := 21) (Nat.zero_lt_succ _) rfl
theorem dJ7_fill_53178_0 : decode cJ7_fill_53178 0 = .ok (.iconst 0, 1) := dz1 (k := 0) (m := 1) dza0_cJ7_fill_53178_0 di_8 (Nat.zero_lt_succ _) rfl
theorem dJ7_fill_53178_1 : decode cJ7_fill_53178 1 = .ok (.istore_n 2, 1) := dz1 (k := 1) (m := 1) dza0_cJ7_fill_53178_0 di_27 (Nat.zero_lt_succ _) rfl
theorem dJ7_fill_53178_2 : decode cJ7_fill_53178 2 = .ok (.aload_n 0, 1) := dz1 (k := 2) (m := 1) dza0_cJ7_fill_53178_0 di_0 (Nat.zero_lt_succ _) rfl
theorem dJ7_fill_53178_3 : decode cJ7_fill_53178 3 = .ok (.arraylength, 1) := dz1 (k := 3) (m := 1) dza0_cJ7_fill_53178_0 di_188 (Nat.zero_lt_succ _) rfl
theorem dJ7_fill_53178_4 : decode cJ7_fill_53178 4 = .ok (.istore_n 3, 1) := dz1 (k := 4) (m := 1) dza0_cJ7_fill_53178_0 di_50 (Nat.zero_lt_succ _) rfl
theorem dJ7_fill_53178_5 : decode cJ7_fill_53178 5 = .ok (.iload_n 2, 1) := dz1 (k := 5) (m := 1) dza0_cJ7_fill_53178_0 di_28 (Nat.zero_lt_succ _) rfl
theorem dJ7_fill_53178_6 : decode cJ7_fill_53178 6 = .ok (.iload_n 3, 1) := dz1 (k := 6) (m := 1) dza0_cJ7_fill_53178_0 di_3 (Nat.zero_lt_succ _) rfl
theorem dJ7_fill_53178_7 : decode cJ7_fill_53178 7 = .ok (.if_icmp .ge 13, 3) := dz1 (k := 7) (m := 3) dza0_cJ7_fill_53178_0 di_189 (Nat.zero_lt_succ _) rfl
theorem dJ7_fill_53178_10 : decode cJ7_fill_53178 10 = .ok (.aload_n 0, 1) := dz1 (k := 10) (m := 1) dza0_cJ7_fill_53178_0 di_0 (Nat.zero_lt_succ _) rfl
theorem dJ7_fill_53178_11 : decode cJ7_fill_53178 11 = .ok (.iload_n 2, 1) := dz1 (k := 11) (m := 1) dza0_cJ7_fill_53178_0 di_28 (Nat.zero_lt_succ _) rfl
theorem dJ7_fill_53178_12 : decode cJ7_fill_53178 12 = .ok (.iload_n 1, 1) := dz1 (k := 12) (m := 1) dza0_cJ7_fill_53178_0 di_11 (Nat.zero_lt_succ _) rfl
theorem dJ7_fill_53178_13 : decode cJ7_fill_53178 13 = .ok (.iastore, 1) := dz1 (k := 13) (m := 1) dza0_cJ7_fill_53178_0 di_22 (Nat.zero_lt_succ _) rfl
theorem dJ7_fill_53178_14 : decode cJ7_fill_53178 14 = .ok (.iinc 2 1, 3) := dz1 (k := 14) (m := 3) dza0_cJ7_fill_53178_0 di_31 (Nat.zero_lt_succ _) rfl
theorem dJ7_fill_53178_17 : decode cJ7_fill_53178 17 = .ok (.goto (-12), 3) := dz1 (k := 17) (m := 3) dza0_cJ7_fill_53178_0 di_190 (Nat.zero_lt_succ _) rfl
theorem dJ7_fill_53178_20 : decode cJ7_fill_53178 20 = .ok (.return_, 1) := dz1 (k := 20) (m := 1) dza0_cJ7_fill_53178_0 di_2 (Nat.zero_lt_succ _) rfl
set_option maxRecDepth 100000 in
theorem dza0_cJ7_fill_031fb_0 : DzLies cJ7_fill_031fb (.mk ⟨[0x03, 0x3d, 0x2a, 0xbe, 0x3e, 0x1c, 0x1d, 0xa2, 0x00, 0x0d, 0x2a, 0x1c, 0x1b, 0x54, 0x84, 0x02, 0x01, 0xa7, 0xff, 0xf4, 0xb1]⟩) 0 := dz_lies (m := 21) (Nat.zero_lt_succ _) rfl
theorem dJ7_fill_031fb_0 : decode cJ7_fill_031fb 0 = .ok (.iconst 0, 1) := dz1 (k := 0) (m := 1) dza0_cJ7_fill_031fb_0 di_8 (Nat.zero_lt_succ _) rfl
theorem dJ7_fill_031fb_1 : decode cJ7_fill_031fb 1 = .ok (.istore_n 2, 1) := dz1 (k := 1) (m := 1) dza0_cJ7_fill_031fb_0 di_27 (Nat.zero_lt_succ _) rfl
theorem dJ7_fill_031fb_2 : decode cJ7_fill_031fb 2 = .ok (.aload_n 0, 1) := dz1 (k := 2) (m := 1) dza0_cJ7_fill_031fb_0 di_0 (Nat.zero_lt_succ _) rfl
theorem dJ7_fill_031fb_3 : decode cJ7_fill_031fb 3 = .ok (.arraylength, 1) := dz1 (k := 3) (m := 1) dza0_cJ7_fill_031fb_0 di_188 (Nat.zero_lt_succ _) rfl
theorem dJ7_fill_031fb_4 : decode cJ7_fill_031fb 4 = .ok (.istore_n 3, 1) := dz1 (k := 4) (m := 1) dza0_cJ7_fill_031fb_0 di_50 (Nat.zero_lt_succ _) rfl
theorem dJ7_fill_031fb_5 : decode cJ7_fill_031fb 5 = .ok (.iload_n 2, 1) := dz1 (k := 5) (m := 1) dza0_cJ7_fill_031fb_0 di_28 (Nat.zero_lt_succ _) rfl
theorem dJ7_fill_031fb_6 : decode cJ7_fill_031fb 6 = .ok (.iload_n 3, 1) := dz1 (k := 6) (m := 1) dza0_cJ7_fill_031fb_0 di_3 (Nat.zero_lt_succ _) rfl
theorem dJ7_fill_031fb_7 : decode cJ7_fill_031fb 7 = .ok (.if_icmp .ge 13, 3) := dz1 (k := 7) (m := 3) dza0_cJ7_fill_031fb_0 di_189 (Nat.zero_lt_succ _) rfl
theorem dJ7_fill_031fb_10 : decode cJ7_fill_031fb 10 = .ok (.aload_n 0, 1) := dz1 (k := 10) (m := 1) dza0_cJ7_fill_031fb_0 di_0 (Nat.zero_lt_succ _) rfl
theorem dJ7_fill_031fb_11 : decode cJ7_fill_031fb 11 = .ok (.iload_n 2, 1) := dz1 (k := 11) (m := 1) dza0_cJ7_fill_031fb_0 di_28 (Nat.zero_lt_succ _) rfl
theorem dJ7_fill_031fb_12 : decode cJ7_fill_031fb 12 = .ok (.iload_n 1, 1) := dz1 (k := 12) (m := 1) dza0_cJ7_fill_031fb_0 di_11 (Nat.zero_lt_succ _) rfl
theorem dJ7_fill_031fb_13 : decode cJ7_fill_031fb 13 = .ok (.bastore, 1) := dz1 (k := 13) (m := 1) dza0_cJ7_fill_031fb_0 di_191 (Nat.zero_lt_succ _) rfl
theorem dJ7_fill_031fb_14 : decode cJ7_fill_031fb 14 = .ok (.iinc 2 1, 3) := dz1 (k := 14) (m := 3) dza0_cJ7_fill_031fb_0 di_31 (Nat.zero_lt_succ _) rfl
theorem dJ7_fill_031fb_17 : decode cJ7_fill_031fb 17 = .ok (.goto (-12), 3) := dz1 (k := 17) (m := 3) dza0_cJ7_fill_031fb_0 di_190 (Nat.zero_lt_succ _) rfl
theorem dJ7_fill_031fb_20 : decode cJ7_fill_031fb 20 = .ok (.return_, 1) := dz1 (k := 20) (m := 1) dza0_cJ7_fill_031fb_0 di_2 (Nat.zero_lt_succ _) rfl
