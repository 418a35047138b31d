section
-- ===== PART A: goes FIRST, ahead of the names: the tables' words, and 'selects' of the private methods out of them =====
/-- a private method of a class that the tables say can be made, by its rows of tables_1 -/
def lw_okq (q : MethodName × Nat) : Prop := (q.1.cls ≠ "java/lang/invoke/MethodHandle" ∧ q.1.cls ≠ "java/lang/invoke/VarHandle") ∧ Cond.instantiable q.1.cls q.2 ∈ tables_1 ∧ Cond.privateMethod q.1 ∈ tables_1 ∧ Cond.instanceMethod q.1 ∈ tables_1
theorem lw_p0 : lw_okq (⟨"CalledNumbers", "isRow", "(I)Z"⟩, 18) := ⟨⟨by decide +kernel, by decide +kernel⟩, List.mem_of_getElem? (i := 18) (by decide +kernel), List.mem_of_getElem? (i := 233) (by decide +kernel), List.mem_of_getElem? (i := 234) (by decide +kernel)⟩
theorem lw_p1 : lw_okq (⟨"CalledNumbers", "found", "(I)I"⟩, 18) := ⟨⟨by decide +kernel, by decide +kernel⟩, List.mem_of_getElem? (i := 18) (by decide +kernel), List.mem_of_getElem? (i := 237) (by decide +kernel), List.mem_of_getElem? (i := 238) (by decide +kernel)⟩
theorem lw_p2 : lw_okq (⟨"CalledNumbers", "refusedPlace", "(II)I"⟩, 18) := ⟨⟨by decide +kernel, by decide +kernel⟩, List.mem_of_getElem? (i := 18) (by decide +kernel), List.mem_of_getElem? (i := 245) (by decide +kernel), List.mem_of_getElem? (i := 246) (by decide +kernel)⟩
theorem lw_p3 : lw_okq (⟨"CalledNumbers", "refusedRow", "(I)I"⟩, 18) := ⟨⟨by decide +kernel, by decide +kernel⟩, List.mem_of_getElem? (i := 18) (by decide +kernel), List.mem_of_getElem? (i := 249) (by decide +kernel), List.mem_of_getElem? (i := 250) (by decide +kernel)⟩
theorem lw_p4 : lw_okq (⟨"CalledNumbers", "reaches", "(III)Z"⟩, 18) := ⟨⟨by decide +kernel, by decide +kernel⟩, List.mem_of_getElem? (i := 18) (by decide +kernel), List.mem_of_getElem? (i := 265) (by decide +kernel), List.mem_of_getElem? (i := 266) (by decide +kernel)⟩
theorem lw_p5 : lw_okq (⟨"CalledNumbers", "isText", "(I)Z"⟩, 18) := ⟨⟨by decide +kernel, by decide +kernel⟩, List.mem_of_getElem? (i := 18) (by decide +kernel), List.mem_of_getElem? (i := 280) (by decide +kernel), List.mem_of_getElem? (i := 281) (by decide +kernel)⟩
theorem lw_p6 : lw_okq (⟨"CalledNumbers", "refusedText", "(I)I"⟩, 18) := ⟨⟨by decide +kernel, by decide +kernel⟩, List.mem_of_getElem? (i := 18) (by decide +kernel), List.mem_of_getElem? (i := 291) (by decide +kernel), List.mem_of_getElem? (i := 292) (by decide +kernel)⟩
theorem lw_p7 : lw_okq (⟨"CalledNumbers$Reader", "readCard", "([BII)I"⟩, 3) := ⟨⟨by decide +kernel, by decide +kernel⟩, List.mem_of_getElem? (i := 30) (by decide +kernel), List.mem_of_getElem? (i := 308) (by decide +kernel), List.mem_of_getElem? (i := 309) (by decide +kernel)⟩
theorem lw_p8 : lw_okq (⟨"CalledNumbers", "isPlayer", "(I)Z"⟩, 18) := ⟨⟨by decide +kernel, by decide +kernel⟩, List.mem_of_getElem? (i := 18) (by decide +kernel), List.mem_of_getElem? (i := 329) (by decide +kernel), List.mem_of_getElem? (i := 330) (by decide +kernel)⟩
theorem lw_p9 : lw_okq (⟨"CalledNumbers", "ofPlayer", "(II)I"⟩, 18) := ⟨⟨by decide +kernel, by decide +kernel⟩, List.mem_of_getElem? (i := 18) (by decide +kernel), List.mem_of_getElem? (i := 333) (by decide +kernel), List.mem_of_getElem? (i := 334) (by decide +kernel)⟩
theorem lw_p10 : lw_okq (⟨"CalledNumbers", "isPlace", "(I)Z"⟩, 18) := ⟨⟨by decide +kernel, by decide +kernel⟩, List.mem_of_getElem? (i := 18) (by decide +kernel), List.mem_of_getElem? (i := 395) (by decide +kernel), List.mem_of_getElem? (i := 396) (by decide +kernel)⟩
theorem lw_p11 : lw_okq (⟨"CalledNumbers", "isNumber", "(I)Z"⟩, 18) := ⟨⟨by decide +kernel, by decide +kernel⟩, List.mem_of_getElem? (i := 18) (by decide +kernel), List.mem_of_getElem? (i := 430) (by decide +kernel), List.mem_of_getElem? (i := 431) (by decide +kernel)⟩
theorem lw_p12 : lw_okq (⟨"CalledNumbers", "doCall", "(I)I"⟩, 18) := ⟨⟨by decide +kernel, by decide +kernel⟩, List.mem_of_getElem? (i := 18) (by decide +kernel), List.mem_of_getElem? (i := 438) (by decide +kernel), List.mem_of_getElem? (i := 439) (by decide +kernel)⟩
theorem lw_p13 : lw_okq (⟨"CalledNumbers", "doRub", "(II)V"⟩, 18) := ⟨⟨by decide +kernel, by decide +kernel⟩, List.mem_of_getElem? (i := 18) (by decide +kernel), List.mem_of_getElem? (i := 477) (by decide +kernel), List.mem_of_getElem? (i := 478) (by decide +kernel)⟩
theorem lw_p14 : lw_okq (⟨"CalledNumbers", "doAgain", "()V"⟩, 18) := ⟨⟨by decide +kernel, by decide +kernel⟩, List.mem_of_getElem? (i := 18) (by decide +kernel), List.mem_of_getElem? (i := 489) (by decide +kernel), List.mem_of_getElem? (i := 490) (by decide +kernel)⟩
theorem lw_p15 : lw_okq (⟨"CalledNumbers", "isKeptPlace", "(I)Z"⟩, 18) := ⟨⟨by decide +kernel, by decide +kernel⟩, List.mem_of_getElem? (i := 18) (by decide +kernel), List.mem_of_getElem? (i := 497) (by decide +kernel), List.mem_of_getElem? (i := 498) (by decide +kernel)⟩
def lw_privs_1 : List (MethodName × Nat) := [(⟨"CalledNumbers", "isRow", "(I)Z"⟩, 18), (⟨"CalledNumbers", "found", "(I)I"⟩, 18), (⟨"CalledNumbers", "refusedPlace", "(II)I"⟩, 18), (⟨"CalledNumbers", "refusedRow", "(I)I"⟩, 18), (⟨"CalledNumbers", "reaches", "(III)Z"⟩, 18), (⟨"CalledNumbers", "isText", "(I)Z"⟩, 18), (⟨"CalledNumbers", "refusedText", "(I)I"⟩, 18), (⟨"CalledNumbers$Reader", "readCard", "([BII)I"⟩, 3), (⟨"CalledNumbers", "isPlayer", "(I)Z"⟩, 18), (⟨"CalledNumbers", "ofPlayer", "(II)I"⟩, 18), (⟨"CalledNumbers", "isPlace", "(I)Z"⟩, 18), (⟨"CalledNumbers", "isNumber", "(I)Z"⟩, 18), (⟨"CalledNumbers", "doCall", "(I)I"⟩, 18), (⟨"CalledNumbers", "doRub", "(II)V"⟩, 18), (⟨"CalledNumbers", "doAgain", "()V"⟩, 18), (⟨"CalledNumbers", "isKeptPlace", "(I)Z"⟩, 18)]
theorem lw_r1 : ∀ q ∈ lw_privs_1, lw_okq q := List.forall_mem_cons.mpr ⟨lw_p0, List.forall_mem_cons.mpr ⟨lw_p1, List.forall_mem_cons.mpr ⟨lw_p2, List.forall_mem_cons.mpr ⟨lw_p3, List.forall_mem_cons.mpr ⟨lw_p4, List.forall_mem_cons.mpr ⟨lw_p5, List.forall_mem_cons.mpr ⟨lw_p6, List.forall_mem_cons.mpr ⟨lw_p7, List.forall_mem_cons.mpr ⟨lw_p8, List.forall_mem_cons.mpr ⟨lw_p9, List.forall_mem_cons.mpr ⟨lw_p10, List.forall_mem_cons.mpr ⟨lw_p11, List.forall_mem_cons.mpr ⟨lw_p12, List.forall_mem_cons.mpr ⟨lw_p13, List.forall_mem_cons.mpr ⟨lw_p14, List.forall_mem_cons.mpr ⟨lw_p15, fun _ h => absurd h List.not_mem_nil⟩⟩⟩⟩⟩⟩⟩⟩⟩⟩⟩⟩⟩⟩⟩⟩
theorem lw_p16 : lw_okq (⟨"CalledNumbers", "stepAhead", "(III)I"⟩, 18) := ⟨⟨by decide +kernel, by decide +kernel⟩, List.mem_of_getElem? (i := 18) (by decide +kernel), List.mem_of_getElem? (i := 526) (by decide +kernel), List.mem_of_getElem? (i := 527) (by decide +kernel)⟩
theorem lw_p17 : lw_okq (⟨"CalledNumbers", "callsAhead", "(I)I"⟩, 18) := ⟨⟨by decide +kernel, by decide +kernel⟩, List.mem_of_getElem? (i := 18) (by decide +kernel), List.mem_of_getElem? (i := 535) (by decide +kernel), List.mem_of_getElem? (i := 536) (by decide +kernel)⟩
theorem lw_p18 : lw_okq (⟨"CalledNumbers", "winsAhead", "(III)Z"⟩, 18) := ⟨⟨by decide +kernel, by decide +kernel⟩, List.mem_of_getElem? (i := 18) (by decide +kernel), List.mem_of_getElem? (i := 540) (by decide +kernel), List.mem_of_getElem? (i := 541) (by decide +kernel)⟩
theorem lw_p19 : lw_okq (⟨"CalledNumbers", "layTrail", "(II)V"⟩, 18) := ⟨⟨by decide +kernel, by decide +kernel⟩, List.mem_of_getElem? (i := 18) (by decide +kernel), List.mem_of_getElem? (i := 548) (by decide +kernel), List.mem_of_getElem? (i := 549) (by decide +kernel)⟩
theorem lw_p20 : lw_okq (⟨"CalledNumbers", "gatherMost", "(III)V"⟩, 18) := ⟨⟨by decide +kernel, by decide +kernel⟩, List.mem_of_getElem? (i := 18) (by decide +kernel), List.mem_of_getElem? (i := 556) (by decide +kernel), List.mem_of_getElem? (i := 557) (by decide +kernel)⟩
theorem lw_p21 : lw_okq (⟨"CalledNumbers", "marksBy", "(III)I"⟩, 18) := ⟨⟨by decide +kernel, by decide +kernel⟩, List.mem_of_getElem? (i := 18) (by decide +kernel), List.mem_of_getElem? (i := 564) (by decide +kernel), List.mem_of_getElem? (i := 565) (by decide +kernel)⟩
theorem lw_p22 : lw_okq (⟨"CalledNumbers", "refusedPairs", "(II)I"⟩, 18) := ⟨⟨by decide +kernel, by decide +kernel⟩, List.mem_of_getElem? (i := 18) (by decide +kernel), List.mem_of_getElem? (i := 573) (by decide +kernel), List.mem_of_getElem? (i := 574) (by decide +kernel)⟩
theorem lw_p23 : lw_okq (⟨"CalledNumbers", "fittingKinds", "(II)I"⟩, 18) := ⟨⟨by decide +kernel, by decide +kernel⟩, List.mem_of_getElem? (i := 18) (by decide +kernel), List.mem_of_getElem? (i := 577) (by decide +kernel), List.mem_of_getElem? (i := 578) (by decide +kernel)⟩
theorem lw_p24 : lw_okq (⟨"CalledNumbers", "fitsPairs", "(III)Z"⟩, 18) := ⟨⟨by decide +kernel, by decide +kernel⟩, List.mem_of_getElem? (i := 18) (by decide +kernel), List.mem_of_getElem? (i := 581) (by decide +kernel), List.mem_of_getElem? (i := 582) (by decide +kernel)⟩
theorem lw_p25 : lw_okq (⟨"CalledNumbers", "greatestPart", "(III)I"⟩, 18) := ⟨⟨by decide +kernel, by decide +kernel⟩, List.mem_of_getElem? (i := 18) (by decide +kernel), List.mem_of_getElem? (i := 589) (by decide +kernel), List.mem_of_getElem? (i := 590) (by decide +kernel)⟩
theorem lw_p26 : lw_okq (⟨"CalledNumbers", "duelAhead", "(IIII)I"⟩, 18) := ⟨⟨by decide +kernel, by decide +kernel⟩, List.mem_of_getElem? (i := 18) (by decide +kernel), List.mem_of_getElem? (i := 598) (by decide +kernel), List.mem_of_getElem? (i := 599) (by decide +kernel)⟩
theorem lw_p27 : lw_okq (⟨"CalledNumbers", "tellAhead", "(IIZ)I"⟩, 18) := ⟨⟨by decide +kernel, by decide +kernel⟩, List.mem_of_getElem? (i := 18) (by decide +kernel), List.mem_of_getElem? (i := 612) (by decide +kernel), List.mem_of_getElem? (i := 613) (by decide +kernel)⟩
theorem lw_p28 : lw_okq (⟨"CalledNumbers", "sumAhead", "(IZII)J"⟩, 18) := ⟨⟨by decide +kernel, by decide +kernel⟩, List.mem_of_getElem? (i := 18) (by decide +kernel), List.mem_of_getElem? (i := 616) (by decide +kernel), List.mem_of_getElem? (i := 617) (by decide +kernel)⟩
theorem lw_p29 : lw_okq (⟨"CalledNumbers", "orders", "(I)J"⟩, 18) := ⟨⟨by decide +kernel, by decide +kernel⟩, List.mem_of_getElem? (i := 18) (by decide +kernel), List.mem_of_getElem? (i := 620) (by decide +kernel), List.mem_of_getElem? (i := 621) (by decide +kernel)⟩
theorem lw_p30 : lw_okq (⟨"CalledNumbers", "tell", "(JJ)V"⟩, 18) := ⟨⟨by decide +kernel, by decide +kernel⟩, List.mem_of_getElem? (i := 18) (by decide +kernel), List.mem_of_getElem? (i := 624) (by decide +kernel), List.mem_of_getElem? (i := 625) (by decide +kernel)⟩
theorem lw_p31 : lw_okq (⟨"CalledNumbers", "doLot", "(I)V"⟩, 18) := ⟨⟨by decide +kernel, by decide +kernel⟩, List.mem_of_getElem? (i := 18) (by decide +kernel), List.mem_of_getElem? (i := 641) (by decide +kernel), List.mem_of_getElem? (i := 642) (by decide +kernel)⟩
def lw_privs_2 : List (MethodName × Nat) := [(⟨"CalledNumbers", "stepAhead", "(III)I"⟩, 18), (⟨"CalledNumbers", "callsAhead", "(I)I"⟩, 18), (⟨"CalledNumbers", "winsAhead", "(III)Z"⟩, 18), (⟨"CalledNumbers", "layTrail", "(II)V"⟩, 18), (⟨"CalledNumbers", "gatherMost", "(III)V"⟩, 18), (⟨"CalledNumbers", "marksBy", "(III)I"⟩, 18), (⟨"CalledNumbers", "refusedPairs", "(II)I"⟩, 18), (⟨"CalledNumbers", "fittingKinds", "(II)I"⟩, 18), (⟨"CalledNumbers", "fitsPairs", "(III)Z"⟩, 18), (⟨"CalledNumbers", "greatestPart", "(III)I"⟩, 18), (⟨"CalledNumbers", "duelAhead", "(IIII)I"⟩, 18), (⟨"CalledNumbers", "tellAhead", "(IIZ)I"⟩, 18), (⟨"CalledNumbers", "sumAhead", "(IZII)J"⟩, 18), (⟨"CalledNumbers", "orders", "(I)J"⟩, 18), (⟨"CalledNumbers", "tell", "(JJ)V"⟩, 18), (⟨"CalledNumbers", "doLot", "(I)V"⟩, 18)]
theorem lw_r2 : ∀ q ∈ lw_privs_2, lw_okq q := List.forall_mem_cons.mpr ⟨lw_p16, List.forall_mem_cons.mpr ⟨lw_p17, List.forall_mem_cons.mpr ⟨lw_p18, List.forall_mem_cons.mpr ⟨lw_p19, List.forall_mem_cons.mpr ⟨lw_p20, List.forall_mem_cons.mpr ⟨lw_p21, List.forall_mem_cons.mpr ⟨lw_p22, List.forall_mem_cons.mpr ⟨lw_p23, List.forall_mem_cons.mpr ⟨lw_p24, List.forall_mem_cons.mpr ⟨lw_p25, List.forall_mem_cons.mpr ⟨lw_p26, List.forall_mem_cons.mpr ⟨lw_p27, List.forall_mem_cons.mpr ⟨lw_p28, List.forall_mem_cons.mpr ⟨lw_p29, List.forall_mem_cons.mpr ⟨lw_p30, List.forall_mem_cons.mpr ⟨lw_p31, fun _ h => absurd h List.not_mem_nil⟩⟩⟩⟩⟩⟩⟩⟩⟩⟩⟩⟩⟩⟩⟩⟩
theorem lw_p32 : lw_okq (⟨"CalledNumbers", "keptHalls", "()I"⟩, 18) := ⟨⟨by decide +kernel, by decide +kernel⟩, List.mem_of_getElem? (i := 18) (by decide +kernel), List.mem_of_getElem? (i := 677) (by decide +kernel), List.mem_of_getElem? (i := 678) (by decide +kernel)⟩
theorem lw_p33 : lw_okq (⟨"CalledNumbersModel", "isRow", "(I)Z"⟩, 22) := ⟨⟨by decide +kernel, by decide +kernel⟩, List.mem_of_getElem? (i := 696) (by decide +kernel), List.mem_of_getElem? (i := 773) (by decide +kernel), List.mem_of_getElem? (i := 774) (by decide +kernel)⟩
theorem lw_p34 : lw_okq (⟨"CalledNumbersModel", "finds", "(I)I"⟩, 22) := ⟨⟨by decide +kernel, by decide +kernel⟩, List.mem_of_getElem? (i := 696) (by decide +kernel), List.mem_of_getElem? (i := 781) (by decide +kernel), List.mem_of_getElem? (i := 782) (by decide +kernel)⟩
theorem lw_p35 : lw_okq (⟨"CalledNumbersModel", "anew", "(II)V"⟩, 22) := ⟨⟨by decide +kernel, by decide +kernel⟩, List.mem_of_getElem? (i := 696) (by decide +kernel), List.mem_of_getElem? (i := 785) (by decide +kernel), List.mem_of_getElem? (i := 786) (by decide +kernel)⟩
theorem lw_p36 : lw_okq (⟨"CalledNumbersModel", "tells", "(I)I"⟩, 22) := ⟨⟨by decide +kernel, by decide +kernel⟩, List.mem_of_getElem? (i := 696) (by decide +kernel), List.mem_of_getElem? (i := 793) (by decide +kernel), List.mem_of_getElem? (i := 794) (by decide +kernel)⟩
theorem lw_p37 : lw_okq (⟨"CalledNumbersModel", "isText", "(I)Z"⟩, 22) := ⟨⟨by decide +kernel, by decide +kernel⟩, List.mem_of_getElem? (i := 696) (by decide +kernel), List.mem_of_getElem? (i := 817) (by decide +kernel), List.mem_of_getElem? (i := 818) (by decide +kernel)⟩
theorem lw_p38 : lw_okq (⟨"CalledNumbersModel", "faultOf", "(I)I"⟩, 22) := ⟨⟨by decide +kernel, by decide +kernel⟩, List.mem_of_getElem? (i := 696) (by decide +kernel), List.mem_of_getElem? (i := 830) (by decide +kernel), List.mem_of_getElem? (i := 831) (by decide +kernel)⟩
theorem lw_p39 : lw_okq (⟨"CalledNumbersModel", "numbers", "(III)I"⟩, 22) := ⟨⟨by decide +kernel, by decide +kernel⟩, List.mem_of_getElem? (i := 696) (by decide +kernel), List.mem_of_getElem? (i := 837) (by decide +kernel), List.mem_of_getElem? (i := 838) (by decide +kernel)⟩
theorem lw_p40 : lw_okq (⟨"CalledNumbersModel", "isFigure", "(II)Z"⟩, 22) := ⟨⟨by decide +kernel, by decide +kernel⟩, List.mem_of_getElem? (i := 696) (by decide +kernel), List.mem_of_getElem? (i := 841) (by decide +kernel), List.mem_of_getElem? (i := 842) (by decide +kernel)⟩
theorem lw_p41 : lw_okq (⟨"CalledNumbersModel", "isOn", "(III)Z"⟩, 22) := ⟨⟨by decide +kernel, by decide +kernel⟩, List.mem_of_getElem? (i := 696) (by decide +kernel), List.mem_of_getElem? (i := 851) (by decide +kernel), List.mem_of_getElem? (i := 852) (by decide +kernel)⟩
theorem lw_p42 : lw_okq (⟨"CalledNumbersModel", "isPlayer", "(I)Z"⟩, 22) := ⟨⟨by decide +kernel, by decide +kernel⟩, List.mem_of_getElem? (i := 696) (by decide +kernel), List.mem_of_getElem? (i := 863) (by decide +kernel), List.mem_of_getElem? (i := 864) (by decide +kernel)⟩
theorem lw_p43 : lw_okq (⟨"CalledNumbersModel", "told", "(II)I"⟩, 22) := ⟨⟨by decide +kernel, by decide +kernel⟩, List.mem_of_getElem? (i := 696) (by decide +kernel), List.mem_of_getElem? (i := 868) (by decide +kernel), List.mem_of_getElem? (i := 869) (by decide +kernel)⟩
theorem lw_p44 : lw_okq (⟨"CalledNumbersModel", "marksBy", "(II)I"⟩, 22) := ⟨⟨by decide +kernel, by decide +kernel⟩, List.mem_of_getElem? (i := 696) (by decide +kernel), List.mem_of_getElem? (i := 892) (by decide +kernel), List.mem_of_getElem? (i := 893) (by decide +kernel)⟩
theorem lw_p45 : lw_okq (⟨"CalledNumbersModel", "known", "()V"⟩, 22) := ⟨⟨by decide +kernel, by decide +kernel⟩, List.mem_of_getElem? (i := 696) (by decide +kernel), List.mem_of_getElem? (i := 903) (by decide +kernel), List.mem_of_getElem? (i := 904) (by decide +kernel)⟩
theorem lw_p46 : lw_okq (⟨"CalledNumbersModel", "copies", "(III)V"⟩, 22) := ⟨⟨by decide +kernel, by decide +kernel⟩, List.mem_of_getElem? (i := 696) (by decide +kernel), List.mem_of_getElem? (i := 907) (by decide +kernel), List.mem_of_getElem? (i := 908) (by decide +kernel)⟩
theorem lw_p47 : lw_okq (⟨"CalledNumbersModel", "calls", "(II)I"⟩, 22) := ⟨⟨by decide +kernel, by decide +kernel⟩, List.mem_of_getElem? (i := 696) (by decide +kernel), List.mem_of_getElem? (i := 911) (by decide +kernel), List.mem_of_getElem? (i := 912) (by decide +kernel)⟩
def lw_privs_3 : List (MethodName × Nat) := [(⟨"CalledNumbers", "keptHalls", "()I"⟩, 18), (⟨"CalledNumbersModel", "isRow", "(I)Z"⟩, 22), (⟨"CalledNumbersModel", "finds", "(I)I"⟩, 22), (⟨"CalledNumbersModel", "anew", "(II)V"⟩, 22), (⟨"CalledNumbersModel", "tells", "(I)I"⟩, 22), (⟨"CalledNumbersModel", "isText", "(I)Z"⟩, 22), (⟨"CalledNumbersModel", "faultOf", "(I)I"⟩, 22), (⟨"CalledNumbersModel", "numbers", "(III)I"⟩, 22), (⟨"CalledNumbersModel", "isFigure", "(II)Z"⟩, 22), (⟨"CalledNumbersModel", "isOn", "(III)Z"⟩, 22), (⟨"CalledNumbersModel", "isPlayer", "(I)Z"⟩, 22), (⟨"CalledNumbersModel", "told", "(II)I"⟩, 22), (⟨"CalledNumbersModel", "marksBy", "(II)I"⟩, 22), (⟨"CalledNumbersModel", "known", "()V"⟩, 22), (⟨"CalledNumbersModel", "copies", "(III)V"⟩, 22), (⟨"CalledNumbersModel", "calls", "(II)I"⟩, 22)]
theorem lw_r3 : ∀ q ∈ lw_privs_3, lw_okq q := List.forall_mem_cons.mpr ⟨lw_p32, List.forall_mem_cons.mpr ⟨lw_p33, List.forall_mem_cons.mpr ⟨lw_p34, List.forall_mem_cons.mpr ⟨lw_p35, List.forall_mem_cons.mpr ⟨lw_p36, List.forall_mem_cons.mpr ⟨lw_p37, List.forall_mem_cons.mpr ⟨lw_p38, List.forall_mem_cons.mpr ⟨lw_p39, List.forall_mem_cons.mpr ⟨lw_p40, List.forall_mem_cons.mpr ⟨lw_p41, List.forall_mem_cons.mpr ⟨lw_p42, List.forall_mem_cons.mpr ⟨lw_p43, List.forall_mem_cons.mpr ⟨lw_p44, List.forall_mem_cons.mpr ⟨lw_p45, List.forall_mem_cons.mpr ⟨lw_p46, List.forall_mem_cons.mpr ⟨lw_p47, fun _ h => absurd h List.not_mem_nil⟩⟩⟩⟩⟩⟩⟩⟩⟩⟩⟩⟩⟩⟩⟩⟩
theorem lw_p48 : lw_okq (⟨"CalledNumbersModel", "follows", "(IZ)Z"⟩, 22) := ⟨⟨by decide +kernel, by decide +kernel⟩, List.mem_of_getElem? (i := 696) (by decide +kernel), List.mem_of_getElem? (i := 952) (by decide +kernel), List.mem_of_getElem? (i := 953) (by decide +kernel)⟩
theorem lw_p49 : lw_okq (⟨"CalledNumbersModel", "takes", "(I)V"⟩, 22) := ⟨⟨by decide +kernel, by decide +kernel⟩, List.mem_of_getElem? (i := 696) (by decide +kernel), List.mem_of_getElem? (i := 956) (by decide +kernel), List.mem_of_getElem? (i := 957) (by decide +kernel)⟩
theorem lw_p50 : lw_okq (⟨"CalledNumbersModel", "comes", "(II)V"⟩, 22) := ⟨⟨by decide +kernel, by decide +kernel⟩, List.mem_of_getElem? (i := 696) (by decide +kernel), List.mem_of_getElem? (i := 960) (by decide +kernel), List.mem_of_getElem? (i := 961) (by decide +kernel)⟩
theorem lw_p51 : lw_okq (⟨"CalledNumbersModel", "wrongOf", "(I)I"⟩, 22) := ⟨⟨by decide +kernel, by decide +kernel⟩, List.mem_of_getElem? (i := 696) (by decide +kernel), List.mem_of_getElem? (i := 977) (by decide +kernel), List.mem_of_getElem? (i := 978) (by decide +kernel)⟩
theorem lw_p52 : lw_okq (⟨"CalledNumbersModel", "kindsBy", "(II)I"⟩, 22) := ⟨⟨by decide +kernel, by decide +kernel⟩, List.mem_of_getElem? (i := 696) (by decide +kernel), List.mem_of_getElem? (i := 982) (by decide +kernel), List.mem_of_getElem? (i := 983) (by decide +kernel)⟩
theorem lw_p53 : lw_okq (⟨"CalledNumbersModel", "part", "(III)I"⟩, 22) := ⟨⟨by decide +kernel, by decide +kernel⟩, List.mem_of_getElem? (i := 696) (by decide +kernel), List.mem_of_getElem? (i := 990) (by decide +kernel), List.mem_of_getElem? (i := 991) (by decide +kernel)⟩
theorem lw_p54 : lw_okq (⟨"CalledNumbersModel", "worthOf", "(III)I"⟩, 22) := ⟨⟨by decide +kernel, by decide +kernel⟩, List.mem_of_getElem? (i := 696) (by decide +kernel), List.mem_of_getElem? (i := 998) (by decide +kernel), List.mem_of_getElem? (i := 999) (by decide +kernel)⟩
theorem lw_p55 : lw_okq (⟨"CalledNumbersModel", "better", "(II)V"⟩, 22) := ⟨⟨by decide +kernel, by decide +kernel⟩, List.mem_of_getElem? (i := 696) (by decide +kernel), List.mem_of_getElem? (i := 1002) (by decide +kernel), List.mem_of_getElem? (i := 1003) (by decide +kernel)⟩
theorem lw_p56 : lw_okq (⟨"CalledNumbersModel", "lot", "(IIZ)I"⟩, 22) := ⟨⟨by decide +kernel, by decide +kernel⟩, List.mem_of_getElem? (i := 696) (by decide +kernel), List.mem_of_getElem? (i := 1010) (by decide +kernel), List.mem_of_getElem? (i := 1011) (by decide +kernel)⟩
theorem lw_p57 : lw_okq (⟨"CalledNumbersModel", "fraction", "(JJ)I"⟩, 22) := ⟨⟨by decide +kernel, by decide +kernel⟩, List.mem_of_getElem? (i := 696) (by decide +kernel), List.mem_of_getElem? (i := 1014) (by decide +kernel), List.mem_of_getElem? (i := 1015) (by decide +kernel)⟩
theorem lw_p58 : lw_okq (⟨"CalledNumbersModel", "countOf", "(I)I"⟩, 22) := ⟨⟨by decide +kernel, by decide +kernel⟩, List.mem_of_getElem? (i := 696) (by decide +kernel), List.mem_of_getElem? (i := 1047) (by decide +kernel), List.mem_of_getElem? (i := 1048) (by decide +kernel)⟩
theorem lw_p59 : lw_okq (⟨"CalledNumbersModel", "thereAre", "(I)I"⟩, 22) := ⟨⟨by decide +kernel, by decide +kernel⟩, List.mem_of_getElem? (i := 696) (by decide +kernel), List.mem_of_getElem? (i := 1051) (by decide +kernel), List.mem_of_getElem? (i := 1052) (by decide +kernel)⟩
theorem lw_p60 : lw_okq (⟨"CalledNumbersModel", "allMarks", "()I"⟩, 22) := ⟨⟨by decide +kernel, by decide +kernel⟩, List.mem_of_getElem? (i := 696) (by decide +kernel), List.mem_of_getElem? (i := 1055) (by decide +kernel), List.mem_of_getElem? (i := 1056) (by decide +kernel)⟩
theorem lw_p61 : lw_okq (⟨"CalledNumbersModel", "manyOf", "(I)I"⟩, 22) := ⟨⟨by decide +kernel, by decide +kernel⟩, List.mem_of_getElem? (i := 696) (by decide +kernel), List.mem_of_getElem? (i := 1059) (by decide +kernel), List.mem_of_getElem? (i := 1060) (by decide +kernel)⟩
def lw_privs_4 : List (MethodName × Nat) := [(⟨"CalledNumbersModel", "follows", "(IZ)Z"⟩, 22), (⟨"CalledNumbersModel", "takes", "(I)V"⟩, 22), (⟨"CalledNumbersModel", "comes", "(II)V"⟩, 22), (⟨"CalledNumbersModel", "wrongOf", "(I)I"⟩, 22), (⟨"CalledNumbersModel", "kindsBy", "(II)I"⟩, 22), (⟨"CalledNumbersModel", "part", "(III)I"⟩, 22), (⟨"CalledNumbersModel", "worthOf", "(III)I"⟩, 22), (⟨"CalledNumbersModel", "better", "(II)V"⟩, 22), (⟨"CalledNumbersModel", "lot", "(IIZ)I"⟩, 22), (⟨"CalledNumbersModel", "fraction", "(JJ)I"⟩, 22), (⟨"CalledNumbersModel", "countOf", "(I)I"⟩, 22), (⟨"CalledNumbersModel", "thereAre", "(I)I"⟩, 22), (⟨"CalledNumbersModel", "allMarks", "()I"⟩, 22), (⟨"CalledNumbersModel", "manyOf", "(I)I"⟩, 22)]
theorem lw_r4 : ∀ q ∈ lw_privs_4, lw_okq q := List.forall_mem_cons.mpr ⟨lw_p48, List.forall_mem_cons.mpr ⟨lw_p49, List.forall_mem_cons.mpr ⟨lw_p50, List.forall_mem_cons.mpr ⟨lw_p51, List.forall_mem_cons.mpr ⟨lw_p52, List.forall_mem_cons.mpr ⟨lw_p53, List.forall_mem_cons.mpr ⟨lw_p54, List.forall_mem_cons.mpr ⟨lw_p55, List.forall_mem_cons.mpr ⟨lw_p56, List.forall_mem_cons.mpr ⟨lw_p57, List.forall_mem_cons.mpr ⟨lw_p58, List.forall_mem_cons.mpr ⟨lw_p59, List.forall_mem_cons.mpr ⟨lw_p60, List.forall_mem_cons.mpr ⟨lw_p61, fun _ h => absurd h List.not_mem_nil⟩⟩⟩⟩⟩⟩⟩⟩⟩⟩⟩⟩⟩⟩
def lw_privs : List (MethodName × Nat) := lw_privs_1 ++ (lw_privs_2 ++ (lw_privs_3 ++ (lw_privs_4)))
def lw_tbl : List Cond := k2_sels lw_privs ++ tables_1
theorem lw_privs_ok : ∀ q ∈ lw_privs, lw_okq q := by
  show ∀ q ∈ lw_privs_1 ++ (lw_privs_2 ++ (lw_privs_3 ++ (lw_privs_4))), lw_okq q
  exact List.forall_mem_append.mpr ⟨lw_r1, List.forall_mem_append.mpr ⟨lw_r2, List.forall_mem_append.mpr ⟨lw_r3, lw_r4⟩⟩⟩
end
section
def va_AOA (t : FieldType) (U : State) : Prop := (Cond.arrayOver (.array t)).before #[] U = true
theorem va_AOA.use {t : FieldType} {A : Array Value} {U : State} (h : va_AOA t U) : (Cond.arrayOver (.array t)).before A U = true := h
/-! ===== BEGIN words of one list among another's, by their places ===== -/
theorem goodIn_r {big : List Cond} (ws : List Cond) (ps : List Nat) (hp : ws = ps.filterMap (fun i => big[i]?)) (h : ws.all goodWord = true) : GoodIn big ws := by
  intro w hw
  have h1 := List.all_eq_true.mp h w hw
  rw [hp] at hw
  obtain ⟨i, -, hi⟩ := List.mem_filterMap.mp hw
  have hm : w ∈ big := by first | exact List.mem_of_getElem? hi | exact List.getElem?_mem hi
  exact ⟨hm, good_of_word h1⟩
theorem goodIn_app {big a b : List Cond} (ha : GoodIn big a) (hb : GoodIn big b) : GoodIn big (a ++ b) := fun w h => (List.mem_append.mp h).elim (ha w) (hb w)
theorem goodIn_ca {big a b : List Cond} {c : Cond} (ha : GoodIn big (c :: a)) (hb : GoodIn big b) : GoodIn big (c :: (a ++ b)) := fun w h => (List.mem_cons.mp h).elim (fun e => ha w (List.mem_cons.mpr (Or.inl e))) (fun h => (List.mem_append.mp h).elim (fun h => ha w (List.mem_cons.mpr (Or.inr h))) (hb w))
theorem goodIn_sub {big ws : List Cond} (hm : ∀ w ∈ ws, w ∈ big) (h : ws.all goodWord = true) : GoodIn big ws := fun w hw => ⟨hm w hw, good_of_word (List.all_eq_true.mp h w hw)⟩
/-! ===== END ===== -/

/-! ===== BEGIN new T[n][m]: the outer array a place, the inner ones among the pooled ===== -/
/-- f, but v at every address of l -/
def vr_up {α : Type} (f : Nat → α) (l : List Nat) (v : α) : Nat → α := fun a => if a ∈ l then v else f a
theorem vr_up_in {α : Type} {f : Nat → α} {l : List Nat} {v : α} {a : Nat} (h : a ∈ l) : vr_up f l v a = v := if_pos h
theorem vr_up_ne {α : Type} {f : Nat → α} {l : List Nat} {v : α} {a : Nat} (h : a ∉ l) : vr_up f l v a = f a := if_neg h
theorem vr_rows {L l : List Nat} {f : Nat → va_E} {e : va_E} (h : ∀ a, a ∈ l → a ∉ L) : va_pl L f ++ l.map (fun a => (a, e)) = va_pl (L ++ l) (vr_up f l e) := by
  unfold va_pl
  rw [List.map_append]
  congr 1
  · apply List.map_congr_left
    intro a ha
    rw [vr_up_ne (fun q => h a q ha)]
  · apply List.map_congr_left
    intro a ha
    rw [vr_up_in ha]
theorem vr_lay {X rows : va_W} {x : Nat × va_E} {pl : va_W} {D : va_G} {cl : List vw_C} {H : Heap} (hP : va_P D cl (((X ++ pl) ++ [x]) ++ rows) H) : va_P D cl ((X ++ [x]) ++ (pl ++ rows)) H := by
  rw [List.append_assoc (X ++ pl)] at hP
  have h := va_P.swap hP
  rw [← List.append_assoc X] at h
  have h2 := va_P.swap h
  rw [List.append_assoc (X ++ [x])] at h2
  exact h2
theorem vr_layD {X rows : va_W} {x : Nat × va_E} {pl : va_W} {A : Nat → Prop} (hD : va_D A (((X ++ pl) ++ [x]) ++ rows)) : va_D A ((X ++ [x]) ++ (pl ++ rows)) := by
  rw [List.append_assoc (X ++ pl)] at hD
  have h := va_D.swap hD
  rw [← List.append_assoc X] at h
  have h2 := va_D.swap h
  rw [List.append_assoc (X ++ [x])] at h2
  exact h2
theorem vr_outer (c : ClassId) (N h0 : Nat) : ∀ i : Nat, Jvm.Free.Multi.outerC c N h0 i = arrV c N (fun j => va_rf (if j < i then some (h0 + 1 + j) else none))
  | 0 => by
    show ({ cls := c, slots := Array.replicate N .null, vm := .none } : Cell) = _
    rw [arrV_new]
    refine congrArg (arrV c N) (funext fun j => ?_)
    simp [va_rf]
  | i + 1 => by
    show (Jvm.Free.Multi.outerC c N h0 i).setSlot i (.ref (h0 + 1 + i)) = _
    rw [vr_outer c N h0 i, arrV_store]
    refine congrArg (arrV c N) (funext fun j => ?_)
    by_cases e : j = i
    · subst e
      simp [updV, va_rf]
    · by_cases h : j < i
      · simp [updV, e, h, Nat.lt_succ_of_lt h]
      · simp [updV, e, h, show ¬ j < i + 1 by omega]
section VGM
variable {p : Program} {l : Launch} {e : Env} {R : Room} {s : State} {m : MethodId} {args : Array Value} {below : List Frame} {meth : Method} {c : Code} {H : Heap} {locs : List Loc} {cells slots : Nat} {Q : State → Prop}
variable {cc : ByteArray} {pc : Nat} {ls : Array Slot} {rest : List Value} {D : va_G} {cl : List vw_C} {A : Nat → Prop} {a : Nat} {tys : List (ClassId × FieldType)} {ws : va_W} {H0 : Heap}
theorem va_mna {X : va_W} {L : List Nat} {f : Nat → va_E} {cc : ByteArray} (hexec : p.tables.exec = Jvm.exec) (hb : c.code = cc) {own : String} {index : Nat} {ty : FieldType} {cy : ClassId} (hown : s.vm.findClass own = some m.cls) (hclink : (Cond.classLink own index ("[" ++ (FieldType.array ty).toString)).before args s = true) (hover : va_AOA ty s) (harr : (Cond.arrayClass ty).before args s = true) (hcy : s.vm.findClass (FieldType.array ty).toString = some cy)
    (hK : va_K D cl tys s) (hP : va_P D cl (X ++ va_pl L f) H) (hD : va_D A (X ++ va_pl L f)) (hS : va_S A H0 H locs) (hA : ∀ q, H0.size ≤ q → A q) {n k : Int32} {N' K' : Nat} {z : vp_A} (hn : ¬ n < 0) (hk : ¬ k < 0) (hN : n.toNatClampNeg = N') (hM : k.toNatClampNeg = K')
    (hb1 : N' * 4 ≤ 536870912) (hb2 : K' * componentBytes ty ≤ 536870912) (hb3 : K' ≤ 536870912) (hdf : fits ty (defaultValue ty) = true) (hdd : (defaultValue ty).isDefault = true) (hcells : cells + (1 + N') ≤ R.cells) (hslots : slots + (N' + N' * K') ≤ R.slots) (hz : ∀ c : ClassId, Jvm.Free.Multi.innerC c K' (defaultValue ty) = vp_cell c z) (hdg : decode cc pc = .ok (.multianewarray index 2, 4))
    (kk : ∀ (q : Nat) (r : Nat → Nat) (cA : ClassId) (H1 : Heap), (∀ i j : Nat, i < N' → j < N' → r i = r j → i = j) → (∀ i : Nat, i < N' → r i ∉ L) → va_K D cl (tys ++ [(cA, .array ty)]) s →
      va_P D cl ((X ++ [(q, .inl (cA, N', .inr (.inr (.inr (.inr (fun i => if i < N' then some (r i) else none))))))]) ++ va_pl (L ++ (List.range N').map r) (vr_up f ((List.range N').map r) (.inl (cy, z)))) H1 → va_D A ((X ++ [(q, .inl (cA, N', .inr (.inr (.inr (.inr (fun i => if i < N' then some (r i) else none))))))]) ++ va_pl (L ++ (List.range N').map r) (vr_up f ((List.range N').map r) (.inl (cy, z)))) → va_S A H0 H1 locs →
      W p l e R s m args below meth c H1 locs (cells + 1 + N') (slots + N' + N' * K') Q (F0 m (pc + 4) ls (.ref q :: rest))) : W p l e R s m args below meth c H locs cells slots Q (F0 m pc ls (.int k :: .int n :: rest)) := by
  subst hN
  subst hM
  intro T hT Xs
  obtain ⟨vm₁, cA, comp, -, fA, fC, hO, -, X', step⟩ := Xs.multianewarray2F hexec hown hclink (va_AOA.use hover) harr (g := F0 m pc ls (.int k :: .int n :: rest)) rfl (by rw [hb]; exact hdg) rfl hn hk hb1 hb2 hb3 hdf hdd hcells hslots
  have ec : some cy = some comp := hcy.symm.trans fC
  cases ec
  generalize hF : Jvm.Free.Multi.fill (T.setVm vm₁) cA cy n.toNatClampNeg k.toNatClampNeg (defaultValue ty) n.toNatClampNeg = F at X' step
  have hTh : (T.setVm vm₁).heap = H := hT
  obtain ⟨f1, f2, -, -⟩ := Jvm.Free.Multi.fill_facts (T.setVm vm₁) cA cy n.toNatClampNeg k.toNatClampNeg (defaultValue ty) n.toNatClampNeg
  rw [hF, hTh] at f1 f2
  have hold : ∀ x : Nat, x < H.size → F.heap[x]? = H[x]? := fun x hx => by
    have := Jvm.Free.Multi.fill_old (T.setVm vm₁) cA cy n.toNatClampNeg k.toNatClampNeg (defaultValue ty) (a := x) (by rw [hTh]; exact hx) n.toNatClampNeg
    rw [hF, hTh] at this
    exact this
  have hrow : ∀ j : Nat, j < n.toNatClampNeg → F.heap[H.size + 1 + j]? = some (vp_cell cy z) := fun j hj => by
    have := Jvm.Free.Multi.fill_inner (T.setVm vm₁) cA cy n.toNatClampNeg k.toNatClampNeg (defaultValue ty) n.toNatClampNeg j hj
    rw [hF, hTh, hz] at this
    exact this
  have hout : Jvm.Free.Multi.outerC cA n.toNatClampNeg H.size n.toNatClampNeg = vp_cell cA (n.toNatClampNeg, .inr (.inr (.inr (.inr (fun i => if i < n.toNatClampNeg then some (H.size + 1 + i) else none))))) := by
    rw [vp_cell_q]
    exact vr_outer cA n.toNatClampNeg H.size n.toNatClampNeg
  rw [hout] at f2
  have hlt : ∀ a, a ∈ L → a < H.size := fun a ha => by
    obtain ⟨k9, hk9⟩ := va_pl_get (X := X) (f := f) ha
    exact (hP k9 _ hk9).lt
  have hnl : ∀ i : Nat, i < n.toNatClampNeg → H.size + 1 + i ∉ L := fun i _ h => by
    have := hlt _ h
    omega
  have hnm : ∀ a, a ∈ (List.range n.toNatClampNeg).map (fun i => H.size + 1 + i) → a ∉ L := fun a ha h => by
    obtain ⟨i, -, rfl⟩ := List.mem_map.mp ha
    have := hlt _ h
    omega
  have hP0 : va_P D cl (X ++ va_pl L f) F.heap := hP.kept (fun k9 x hx => hold x.1 ((hP k9 x hx).lt))
  have hP1 : va_P D cl ((X ++ va_pl L f) ++ [(H.size, .inl (cA, n.toNatClampNeg, .inr (.inr (.inr (.inr (fun i => if i < n.toNatClampNeg then some (H.size + 1 + i) else none))))))]) F.heap := hP0.app (fun k9 x hx => by
    have h0 : k9 < 1 := (List.getElem?_eq_some_iff.mp hx).1
    rw [show k9 = 0 by omega] at hx
    cases hx
    exact f2)
  have hP2 : va_P D cl (((X ++ va_pl L f) ++ [(H.size, .inl (cA, n.toNatClampNeg, .inr (.inr (.inr (.inr (fun i => if i < n.toNatClampNeg then some (H.size + 1 + i) else none))))))]) ++ ((List.range n.toNatClampNeg).map (fun i => H.size + 1 + i)).map (fun a => (a, .inl (cy, z)))) F.heap := hP1.app (fun k9 x hx => by
    obtain ⟨a, ha, rfl⟩ := List.mem_map.mp (List.mem_of_getElem? hx)
    obtain ⟨i, hi, rfl⟩ := List.mem_map.mp ha
    exact hrow i (List.mem_range.mp hi))
  have hD2 : va_D A (((X ++ va_pl L f) ++ [(H.size, .inl (cA, n.toNatClampNeg, .inr (.inr (.inr (.inr (fun i => if i < n.toNatClampNeg then some (H.size + 1 + i) else none))))))]) ++ ((List.range n.toNatClampNeg).map (fun i => H.size + 1 + i)).map (fun a => (a, .inl (cy, z)))) := by
    have hD1 := hD.push (e := .inl (cA, n.toNatClampNeg, .inr (.inr (.inr (.inr (fun i => if i < n.toNatClampNeg then some (H.size + 1 + i) else none)))))) hP rfl (hA _ hS.1)
    generalize hW1 : (X ++ va_pl L f) ++ [(H.size, .inl (cA, n.toNatClampNeg, .inr (.inr (.inr (.inr (fun i => if i < n.toNatClampNeg then some (H.size + 1 + i) else none))))))] = W1 at hD1 hP1 ⊢
    have hle : ∀ (k9 : Nat) (x : Nat × va_E), W1[k9]? = some x → x.1 ≤ H.size := fun k9 x hx => by
      rw [← hW1] at hx
      by_cases hl : k9 < (X ++ va_pl L f).length
      · rw [List.getElem?_append_left hl] at hx
        exact Nat.le_of_lt ((hP k9 x hx).lt)
      · rw [List.getElem?_append_right (by omega)] at hx
        have h0 : k9 - (X ++ va_pl L f).length < 1 := (List.getElem?_eq_some_iff.mp hx).1
        rw [show k9 - (X ++ va_pl L f).length = 0 by omega] at hx
        cases hx
        exact Nat.le_refl _
    have hr : ∀ (k9 : Nat) (x : Nat × va_E), (((List.range n.toNatClampNeg).map (fun i => H.size + 1 + i)).map (fun a => ((a, .inl (cy, z)) : Nat × va_E)))[k9]? = some x → x.1 = H.size + 1 + k9 := fun k9 x hx => by
      rw [List.getElem?_map, List.getElem?_map] at hx
      by_cases h9 : k9 < n.toNatClampNeg
      · rw [List.getElem?_range h9] at hx
        cases hx
        rfl
      · have hn0 : (List.range n.toNatClampNeg)[k9]? = none := List.getElem?_eq_none (by rw [List.length_range]; omega)
        rw [hn0] at hx
        cases hx
    refine ⟨fun i j x y hi hj hxy => ?_, fun k9 x hx => ?_⟩
    · by_cases h1 : i < W1.length <;> by_cases h2 : j < W1.length
      · rw [List.getElem?_append_left h1] at hi
        rw [List.getElem?_append_left h2] at hj
        exact hD1.1 i j x y hi hj hxy
      · rw [List.getElem?_append_left h1] at hi
        rw [List.getElem?_append_right (by omega)] at hj
        have := hle _ _ hi
        have := hr _ _ hj
        omega
      · rw [List.getElem?_append_right (by omega)] at hi
        rw [List.getElem?_append_left h2] at hj
        have := hle _ _ hj
        have := hr _ _ hi
        omega
      · rw [List.getElem?_append_right (by omega)] at hi hj
        have := hr _ _ hi
        have := hr _ _ hj
        omega
    · by_cases h1 : k9 < W1.length
      · rw [List.getElem?_append_left h1] at hx
        exact hD1.2 k9 x hx
      · rw [List.getElem?_append_right (by omega)] at hx
        have := hr _ _ hx
        exact hA _ (by have := hS.1; omega)
  have hAr : ArrOfT s cA (.array ty) := fun N9 z9 => by
    obtain ⟨-, k9, hk9, cm9, hkk9⟩ := (hO 0 0 0).1
    exact ⟨(fun q hq => by cases hq), k9, hk9, cm9, hkk9⟩
  have hK2 : va_K D cl (tys ++ [(cA, .array ty)]) s := ⟨hK.1, fun k9 x hx => by
    by_cases hl : k9 < tys.length
    · rw [List.getElem?_append_left hl] at hx
      exact hK.2 k9 x hx
    · rw [List.getElem?_append_right (by omega)] at hx
      have h0 : k9 - tys.length < 1 := (List.getElem?_eq_some_iff.mp hx).1
      rw [show k9 - tys.length = 0 by omega] at hx
      cases hx
      exact ⟨hAr, fA⟩⟩
  obtain ⟨t, a1, b1⟩ := kk H.size (fun i => H.size + 1 + i) cA F.heap (fun i j _ _ h => by have h9 : H.size + 1 + i = H.size + 1 + j := h; omega) hnl hK2 (by rw [← vr_rows hnm]; exact vr_lay hP2) (by rw [← vr_rows hnm]; exact vr_layD hD2) ⟨by rw [f1]; have := hS.1; omega, fun x h1 h2 => (hold x (Nat.lt_of_lt_of_le h1 hS.1)).trans (hS.2.1 x h1 h2), hS.2.2⟩ F rfl X'
  refine ⟨t, step t ?_, b1⟩
  have e : T.heap.size = H.size := by rw [hT]
  rw [e]
  exact a1
end VGM
/-! ===== END ===== -/

/-! ===== BEGIN printed: names, fields, word lists, decode rows ===== -/
def RX0 : String := "CalledNumbers$Deaf"
def TX0 : u_T := fun k => match k with
  | _ => ("", "", "", false)
def tyX0 : Nat → FieldType := fun k => match k with
  | _ => .int
abbrev wsX00 : List Cond := u_ws RX0 TX0 0
theorem nmX0 : ∀ a, a < 0 → ∀ b, b < 0 → a ≠ b → (TX0 a).2.1 ≠ (TX0 b).2.1 := by decide +kernel
theorem tyX0_ok : ∀ k, k < 0 → parseFieldDescriptor (TX0 k).2.2.1 = some (tyX0 k) := by decide +kernel
abbrev cX0_init : ByteArray := prog_2_method_1_code
def yX0_init : MethodName := ⟨RX0, "<init>", "()V"⟩
abbrev cX0_heard : ByteArray := prog_2_method_2_code
def yX0_heard : MethodName := ⟨RX0, "heard", "(III)I"⟩
abbrev cX0_callsTillDeaf : ByteArray := prog_2_method_3_code
def yX0_callsTillDeaf : MethodName := ⟨RX0, "callsTillDeaf", "(I)I"⟩
def RX1 : String := "CalledNumbers$Deeds"
def TX1 : u_T := fun k => match k with
  | 0 => ("CalledNumbers$Deeds", "done", "[I", true)
  | _ => ("CalledNumbers$Deeds", "size", "I", false)
def tyX1 : Nat → FieldType := fun k => match k with
  | 0 => .array .int
  | _ => .int
abbrev wsX10 : List Cond := u_ws RX1 TX1 2
theorem nmX1 : ∀ a, a < 2 → ∀ b, b < 2 → a ≠ b → (TX1 a).2.1 ≠ (TX1 b).2.1 := by decide +kernel
theorem tyX1_ok : ∀ k, k < 2 → parseFieldDescriptor (TX1 k).2.2.1 = some (tyX1 k) := by decide +kernel
abbrev cX1_init : ByteArray := prog_3_method_1_code
def yX1_init : MethodName := ⟨RX1, "<init>", "()V"⟩
abbrev cX1_add : ByteArray := prog_3_method_2_code
def yX1_add : MethodName := ⟨RX1, "add", "(I)V"⟩
abbrev cX1_take : ByteArray := prog_3_method_3_code
def yX1_take : MethodName := ⟨RX1, "take", "(LCalledNumbers$Deeds;)V"⟩
def RX2 : String := "CalledNumbers$Hall"
def TX2 : u_T := fun k => match k with
  | 0 => ("CalledNumbers$Hall", "seats", "LCalledNumbers$Seats;", true)
  | 1 => ("CalledNumbers$Hall", "marks", "[I", true)
  | 2 => ("CalledNumbers$Hall", "won", "I", false)
  | 3 => ("CalledNumbers$Hall", "bag", "I", false)
  | 4 => ("CalledNumbers$Hall", "last", "I", false)
  | _ => ("CalledNumbers$Hall", "calls", "I", false)
def tyX2 : Nat → FieldType := fun k => match k with
  | 0 => .object "CalledNumbers$Seats"
  | 1 => .array .int
  | 2 => .int
  | 3 => .int
  | 4 => .int
  | _ => .int
abbrev wsX20 : List Cond := u_ws RX2 TX2 6
theorem nmX2 : ∀ a, a < 6 → ∀ b, b < 6 → a ≠ b → (TX2 a).2.1 ≠ (TX2 b).2.1 := by decide +kernel
theorem tyX2_ok : ∀ k, k < 6 → parseFieldDescriptor (TX2 k).2.2.1 = some (tyX2 k) := by decide +kernel
abbrev cX2_init : ByteArray := prog_4_method_1_code
def yX2_init : MethodName := ⟨RX2, "<init>", "(LCalledNumbers$Seats;)V"⟩
abbrev cX2_begin : ByteArray := prog_4_method_2_code
def yX2_begin : MethodName := ⟨RX2, "begin", "()V"⟩
abbrev cX2_take : ByteArray := prog_4_method_3_code
def yX2_take : MethodName := ⟨RX2, "take", "(LCalledNumbers$Hall;)V"⟩
abbrev cX2_holds : ByteArray := prog_4_method_4_code
def yX2_holds : MethodName := ⟨RX2, "holds", "(I)Z"⟩
abbrev cX2_hasWon : ByteArray := prog_4_method_5_code
def yX2_hasWon : MethodName := ⟨RX2, "hasWon", "(I)Z"⟩
abbrev cX2_ring : ByteArray := prog_4_method_6_code
def yX2_ring : MethodName := ⟨RX2, "ring", "(II)I"⟩
abbrev cX2_turn : ByteArray := prog_4_method_7_code
def yX2_turn : MethodName := ⟨RX2, "turn", "(II)V"⟩
abbrev cX2_allMarks : ByteArray := prog_4_method_8_code
def yX2_allMarks : MethodName := ⟨RX2, "allMarks", "()I"⟩
abbrev cX2_worth : ByteArray := prog_4_method_9_code
def yX2_worth : MethodName := ⟨RX2, "worth", "(I)I"⟩
def RX3 : String := "CalledNumbers$Hasty"
def TX3 : u_T := fun k => match k with
  | _ => ("", "", "", false)
def tyX3 : Nat → FieldType := fun k => match k with
  | _ => .int
abbrev wsX30 : List Cond := u_ws RX3 TX3 0
theorem nmX3 : ∀ a, a < 0 → ∀ b, b < 0 → a ≠ b → (TX3 a).2.1 ≠ (TX3 b).2.1 := by decide +kernel
theorem tyX3_ok : ∀ k, k < 0 → parseFieldDescriptor (TX3 k).2.2.1 = some (tyX3 k) := by decide +kernel
abbrev cX3_init : ByteArray := prog_5_method_1_code
def yX3_init : MethodName := ⟨RX3, "<init>", "()V"⟩
abbrev cX3_lacks : ByteArray := prog_5_method_2_code
def yX3_lacks : MethodName := ⟨RX3, "lacks", "(I)I"⟩
abbrev cX3_linesOfTwo : ByteArray := prog_5_method_3_code
def yX3_linesOfTwo : MethodName := ⟨RX3, "linesOfTwo", "(I)I"⟩
def RX4 : String := "CalledNumbers$Late"
def TX4 : u_T := fun k => match k with
  | _ => ("", "", "", false)
def tyX4 : Nat → FieldType := fun k => match k with
  | _ => .int
abbrev wsX40 : List Cond := u_ws RX4 TX4 0
theorem nmX4 : ∀ a, a < 0 → ∀ b, b < 0 → a ≠ b → (TX4 a).2.1 ≠ (TX4 b).2.1 := by decide +kernel
theorem tyX4_ok : ∀ k, k < 0 → parseFieldDescriptor (TX4 k).2.2.1 = some (tyX4 k) := by decide +kernel
abbrev cX4_init : ByteArray := prog_6_method_1_code
def yX4_init : MethodName := ⟨RX4, "<init>", "()V"⟩
abbrev cX4_heard : ByteArray := prog_6_method_2_code
def yX4_heard : MethodName := ⟨RX4, "heard", "(III)I"⟩
def RX5 : String := "CalledNumbers$Plain"
def TX5 : u_T := fun k => match k with
  | _ => ("", "", "", false)
def tyX5 : Nat → FieldType := fun k => match k with
  | _ => .int
abbrev wsX50 : List Cond := u_ws RX5 TX5 0
theorem nmX5 : ∀ a, a < 0 → ∀ b, b < 0 → a ≠ b → (TX5 a).2.1 ≠ (TX5 b).2.1 := by decide +kernel
theorem tyX5_ok : ∀ k, k < 0 → parseFieldDescriptor (TX5 k).2.2.1 = some (tyX5 k) := by decide +kernel
abbrev cX5_init : ByteArray := prog_7_method_1_code
def yX5_init : MethodName := ⟨RX5, "<init>", "()V"⟩
abbrev cX5_heard : ByteArray := prog_7_method_2_code
def yX5_heard : MethodName := ⟨RX5, "heard", "(III)I"⟩
abbrev cX5_lacks : ByteArray := prog_7_method_3_code
def yX5_lacks : MethodName := ⟨RX5, "lacks", "(I)I"⟩
abbrev cX5_inUpper : ByteArray := prog_7_method_4_code
def yX5_inUpper : MethodName := ⟨RX5, "inUpper", "(I)I"⟩
abbrev cX5_inLower : ByteArray := prog_7_method_5_code
def yX5_inLower : MethodName := ⟨RX5, "inLower", "(I)I"⟩
def RX6 : String := "CalledNumbers$Reader"
def TX6 : u_T := fun k => match k with
  | 0 => ("CalledNumbers$Reader", "kindOf", "[I", true)
  | 1 => ("CalledNumbers$Reader", "cards", "[[I", true)
  | _ => ("CalledNumbers$Reader", "players", "I", false)
def tyX6 : Nat → FieldType := fun k => match k with
  | 0 => .array .int
  | 1 => .array (.array .int)
  | _ => .int
abbrev wsX60 : List Cond := u_ws RX6 TX6 3
theorem nmX6 : ∀ a, a < 3 → ∀ b, b < 3 → a ≠ b → (TX6 a).2.1 ≠ (TX6 b).2.1 := by decide +kernel
theorem tyX6_ok : ∀ k, k < 3 → parseFieldDescriptor (TX6 k).2.2.1 = some (tyX6 k) := by decide +kernel
abbrev cX6_init : ByteArray := prog_8_method_1_code
def yX6_init : MethodName := ⟨RX6, "<init>", "()V"⟩
abbrev cX6_read : ByteArray := prog_8_method_2_code
def yX6_read : MethodName := ⟨RX6, "read", "([BI)I"⟩
abbrev cX6_kindBy : ByteArray := prog_8_method_3_code
def yX6_kindBy : MethodName := ⟨RX6, "kindBy", "(I)I"⟩
abbrev cX6_readCard : ByteArray := prog_8_method_4_code
def yX6_readCard : MethodName := ⟨RX6, "readCard", "([BII)I"⟩
def RX7 : String := "CalledNumbers$Seats"
def TX7 : u_T := fun k => match k with
  | 0 => ("CalledNumbers$Seats", "kinds", "[LCalledNumbers$Plain;", true)
  | 1 => ("CalledNumbers$Seats", "kindOf", "[I", true)
  | 2 => ("CalledNumbers$Seats", "cards", "[[I", true)
  | 3 => ("CalledNumbers$Seats", "cardBits", "[I", true)
  | _ => ("CalledNumbers$Seats", "taken", "I", false)
def tyX7 : Nat → FieldType := fun k => match k with
  | 0 => .array (.object "CalledNumbers$Plain")
  | 1 => .array .int
  | 2 => .array (.array .int)
  | 3 => .array .int
  | _ => .int
abbrev wsX70 : List Cond := u_ws RX7 TX7 5
theorem nmX7 : ∀ a, a < 5 → ∀ b, b < 5 → a ≠ b → (TX7 a).2.1 ≠ (TX7 b).2.1 := by decide +kernel
theorem tyX7_ok : ∀ k, k < 5 → parseFieldDescriptor (TX7 k).2.2.1 = some (tyX7 k) := by decide +kernel
abbrev cX7_init : ByteArray := prog_9_method_1_code
def yX7_init : MethodName := ⟨RX7, "<init>", "()V"⟩
abbrev cX7_fillBy : ByteArray := prog_9_method_2_code
def yX7_fillBy : MethodName := ⟨RX7, "fillBy", "(LCalledNumbers$Reader;)V"⟩
abbrev cX7_kindAt : ByteArray := prog_9_method_3_code
def yX7_kindAt : MethodName := ⟨RX7, "kindAt", "(I)LCalledNumbers$Plain;"⟩
abbrev cX7_marked : ByteArray := prog_9_method_4_code
def yX7_marked : MethodName := ⟨RX7, "marked", "(III)I"⟩
abbrev cX7_wholeOnes : ByteArray := prog_9_method_5_code
def yX7_wholeOnes : MethodName := ⟨RX7, "wholeOnes", "()I"⟩
abbrev cX7_deafOnes : ByteArray := prog_9_method_6_code
def yX7_deafOnes : MethodName := ⟨RX7, "deafOnes", "()I"⟩
def RX8 : String := "CalledNumbers$Sly"
def TX8 : u_T := fun k => match k with
  | _ => ("", "", "", false)
def tyX8 : Nat → FieldType := fun k => match k with
  | _ => .int
abbrev wsX80 : List Cond := u_ws RX8 TX8 0
theorem nmX8 : ∀ a, a < 0 → ∀ b, b < 0 → a ≠ b → (TX8 a).2.1 ≠ (TX8 b).2.1 := by decide +kernel
theorem tyX8_ok : ∀ k, k < 0 → parseFieldDescriptor (TX8 k).2.2.1 = some (tyX8 k) := by decide +kernel
abbrev cX8_init : ByteArray := prog_10_method_1_code
def yX8_init : MethodName := ⟨RX8, "<init>", "()V"⟩
abbrev cX8_heard : ByteArray := prog_10_method_2_code
def yX8_heard : MethodName := ⟨RX8, "heard", "(III)I"⟩
abbrev cX8_behind : ByteArray := prog_10_method_3_code
def yX8_behind : MethodName := ⟨RX8, "behind", "(I)I"⟩
abbrev cX8_pairsOn : ByteArray := prog_10_method_4_code
def yX8_pairsOn : MethodName := ⟨RX8, "pairsOn", "(I)I"⟩
def RX9 : String := "CalledNumbers$Whole"
def TX9 : u_T := fun k => match k with
  | _ => ("", "", "", false)
def tyX9 : Nat → FieldType := fun k => match k with
  | _ => .int
abbrev wsX90 : List Cond := u_ws RX9 TX9 0
theorem nmX9 : ∀ a, a < 0 → ∀ b, b < 0 → a ≠ b → (TX9 a).2.1 ≠ (TX9 b).2.1 := by decide +kernel
theorem tyX9_ok : ∀ k, k < 0 → parseFieldDescriptor (TX9 k).2.2.1 = some (tyX9 k) := by decide +kernel
abbrev cX9_init : ByteArray := prog_11_method_1_code
def yX9_init : MethodName := ⟨RX9, "<init>", "()V"⟩
abbrev cX9_lacks : ByteArray := prog_11_method_2_code
def yX9_lacks : MethodName := ⟨RX9, "lacks", "(I)I"⟩
def RX10 : String := "CalledNumbers"
def TX10 : u_T := fun k => match k with
  | 0 => ("CalledNumbers", "rows", "[[I", true)
  | 1 => ("CalledNumbers", "rowSizes", "[I", true)
  | 2 => ("CalledNumbers", "texts", "[[B", true)
  | 3 => ("CalledNumbers", "textSizes", "[I", true)
  | 4 => ("CalledNumbers", "reader", "LCalledNumbers$Reader;", true)
  | 5 => ("CalledNumbers", "seats", "LCalledNumbers$Seats;", true)
  | 6 => ("CalledNumbers", "hall", "LCalledNumbers$Hall;", true)
  | 7 => ("CalledNumbers", "deeds", "LCalledNumbers$Deeds;", true)
  | 8 => ("CalledNumbers", "kept", "[LCalledNumbers$Deeds;", true)
  | 9 => ("CalledNumbers", "aside", "[LCalledNumbers$Hall;", true)
  | 10 => ("CalledNumbers", "trail", "[I", true)
  | 11 => ("CalledNumbers", "mostWinners", "I", false)
  | 12 => ("CalledNumbers", "parts", "[I", true)
  | 13 => ("CalledNumbers", "asked", "I", false)
  | 14 => ("CalledNumbers", "upper", "J", false)
  | 15 => ("CalledNumbers", "lower", "J", false)
  | 16 => ("CalledNumbers", "finding", "I", false)
  | _ => ("CalledNumbers", "findings", "[I", true)
def tyX10 : Nat → FieldType := fun k => match k with
  | 0 => .array (.array .int)
  | 1 => .array .int
  | 2 => .array (.array .byte)
  | 3 => .array .int
  | 4 => .object "CalledNumbers$Reader"
  | 5 => .object "CalledNumbers$Seats"
  | 6 => .object "CalledNumbers$Hall"
  | 7 => .object "CalledNumbers$Deeds"
  | 8 => .array (.object "CalledNumbers$Deeds")
  | 9 => .array (.object "CalledNumbers$Hall")
  | 10 => .array .int
  | 11 => .int
  | 12 => .array .int
  | 13 => .int
  | 14 => .long
  | 15 => .long
  | 16 => .int
  | _ => .array .int
abbrev wsX100 : List Cond := u_ws RX10 TX10 18
theorem nmX10 : ∀ a, a < 18 → ∀ b, b < 18 → a ≠ b → (TX10 a).2.1 ≠ (TX10 b).2.1 := by decide +kernel
theorem tyX10_ok : ∀ k, k < 18 → parseFieldDescriptor (TX10 k).2.2.1 = some (tyX10 k) := by decide +kernel
abbrev cX10_init : ByteArray := prog_1_method_1_code
def yX10_init : MethodName := ⟨RX10, "<init>", "()V"⟩
abbrev cX10_row : ByteArray := prog_1_method_2_code
def yX10_row : MethodName := ⟨RX10, "row", "(II)I"⟩
abbrev cX10_lay : ByteArray := prog_1_method_3_code
def yX10_lay : MethodName := ⟨RX10, "lay", "(III)I"⟩
abbrev cX10_at : ByteArray := prog_1_method_4_code
def yX10_at : MethodName := ⟨RX10, "at", "(II)I"⟩
abbrev cX10_tear : ByteArray := prog_1_method_5_code
def yX10_tear : MethodName := ⟨RX10, "tear", "(I)I"⟩
abbrev cX10_copy : ByteArray := prog_1_method_6_code
def yX10_copy : MethodName := ⟨RX10, "copy", "(IIIII)I"⟩
abbrev cX10_mean : ByteArray := prog_1_method_7_code
def yX10_mean : MethodName := ⟨RX10, "mean", "(I)I"⟩
abbrev cX10_text : ByteArray := prog_1_method_8_code
def yX10_text : MethodName := ⟨RX10, "text", "(II)I"⟩
abbrev cX10_put : ByteArray := prog_1_method_9_code
def yX10_put : MethodName := ⟨RX10, "put", "(III)I"⟩
abbrev cX10_fault : ByteArray := prog_1_method_10_code
def yX10_fault : MethodName := ⟨RX10, "fault", "(I)I"⟩
abbrev cX10_hall : ByteArray := prog_1_method_11_code
def yX10_hall : MethodName := ⟨RX10, "hall", "(I)I"⟩
abbrev cX10_player : ByteArray := prog_1_method_12_code
def yX10_player : MethodName := ⟨RX10, "player", "(II)I"⟩
abbrev cX10_card : ByteArray := prog_1_method_13_code
def yX10_card : MethodName := ⟨RX10, "card", "(II)I"⟩
abbrev cX10_mark : ByteArray := prog_1_method_14_code
def yX10_mark : MethodName := ⟨RX10, "mark", "(II)I"⟩
abbrev cX10_call : ByteArray := prog_1_method_15_code
def yX10_call : MethodName := ⟨RX10, "call", "(I)I"⟩
abbrev cX10_rub : ByteArray := prog_1_method_16_code
def yX10_rub : MethodName := ⟨RX10, "rub", "(II)I"⟩
abbrev cX10_undo : ByteArray := prog_1_method_17_code
def yX10_undo : MethodName := ⟨RX10, "undo", "(I)I"⟩
abbrev cX10_keep : ByteArray := prog_1_method_18_code
def yX10_keep : MethodName := ⟨RX10, "keep", "(I)I"⟩
abbrev cX10_on : ByteArray := prog_1_method_19_code
def yX10_on : MethodName := ⟨RX10, "on", "(I)I"⟩
abbrev cX10_hears : ByteArray := prog_1_method_20_code
def yX10_hears : MethodName := ⟨RX10, "hears", "(IIII)I"⟩
abbrev cX10_run : ByteArray := prog_1_method_21_code
def yX10_run : MethodName := ⟨RX10, "run", "(I)I"⟩
abbrev cX10_safe : ByteArray := prog_1_method_22_code
def yX10_safe : MethodName := ⟨RX10, "safe", "()I"⟩
abbrev cX10_fewest : ByteArray := prog_1_method_23_code
def yX10_fewest : MethodName := ⟨RX10, "fewest", "(II)I"⟩
abbrev cX10_most : ByteArray := prog_1_method_24_code
def yX10_most : MethodName := ⟨RX10, "most", "(II)I"⟩
abbrev cX10_which : ByteArray := prog_1_method_25_code
def yX10_which : MethodName := ⟨RX10, "which", "(II)I"⟩
abbrev cX10_kinds : ByteArray := prog_1_method_26_code
def yX10_kinds : MethodName := ⟨RX10, "kinds", "(II)I"⟩
abbrev cX10_next : ByteArray := prog_1_method_27_code
def yX10_next : MethodName := ⟨RX10, "next", "(II)I"⟩
abbrev cX10_duel : ByteArray := prog_1_method_28_code
def yX10_duel : MethodName := ⟨RX10, "duel", "(III)I"⟩
abbrev cX10_odds : ByteArray := prog_1_method_29_code
def yX10_odds : MethodName := ⟨RX10, "odds", "(II)I"⟩
abbrev cX10_mid : ByteArray := prog_1_method_30_code
def yX10_mid : MethodName := ⟨RX10, "mid", "(II)I"⟩
abbrev cX10_lots : ByteArray := prog_1_method_31_code
def yX10_lots : MethodName := ⟨RX10, "lots", "(II)I"⟩
abbrev cX10_asked : ByteArray := prog_1_method_32_code
def yX10_asked : MethodName := ⟨RX10, "asked", "()I"⟩
abbrev cX10_upper : ByteArray := prog_1_method_33_code
def yX10_upper : MethodName := ⟨RX10, "upper", "()J"⟩
abbrev cX10_lower : ByteArray := prog_1_method_34_code
def yX10_lower : MethodName := ⟨RX10, "lower", "()J"⟩
abbrev cX10_count : ByteArray := prog_1_method_35_code
def yX10_count : MethodName := ⟨RX10, "count", "(I)I"⟩
abbrev cX10_finding : ByteArray := prog_1_method_36_code
def yX10_finding : MethodName := ⟨RX10, "finding", "()I"⟩
abbrev cX10_findings : ByteArray := prog_1_method_37_code
def yX10_findings : MethodName := ⟨RX10, "findings", "(I)I"⟩
abbrev cX10_digest : ByteArray := prog_1_method_38_code
def yX10_digest : MethodName := ⟨RX10, "digest", "()J"⟩
abbrev cX10_found : ByteArray := prog_1_method_39_code
def yX10_found : MethodName := ⟨RX10, "found", "(I)I"⟩
abbrev cX10_isRow : ByteArray := prog_1_method_40_code
def yX10_isRow : MethodName := ⟨RX10, "isRow", "(I)Z"⟩
abbrev cX10_isText : ByteArray := prog_1_method_41_code
def yX10_isText : MethodName := ⟨RX10, "isText", "(I)Z"⟩
abbrev cX10_isPlayer : ByteArray := prog_1_method_42_code
def yX10_isPlayer : MethodName := ⟨RX10, "isPlayer", "(I)Z"⟩
abbrev cX10_isPlace : ByteArray := prog_1_method_43_code
def yX10_isPlace : MethodName := ⟨RX10, "isPlace", "(I)Z"⟩
abbrev cX10_isNumber : ByteArray := prog_1_method_44_code
def yX10_isNumber : MethodName := ⟨RX10, "isNumber", "(I)Z"⟩
abbrev cX10_isKeptPlace : ByteArray := prog_1_method_45_code
def yX10_isKeptPlace : MethodName := ⟨RX10, "isKeptPlace", "(I)Z"⟩
abbrev cX10_refusedRow : ByteArray := prog_1_method_46_code
def yX10_refusedRow : MethodName := ⟨RX10, "refusedRow", "(I)I"⟩
abbrev cX10_refusedPlace : ByteArray := prog_1_method_47_code
def yX10_refusedPlace : MethodName := ⟨RX10, "refusedPlace", "(II)I"⟩
abbrev cX10_refusedText : ByteArray := prog_1_method_48_code
def yX10_refusedText : MethodName := ⟨RX10, "refusedText", "(I)I"⟩
abbrev cX10_reaches : ByteArray := prog_1_method_49_code
def yX10_reaches : MethodName := ⟨RX10, "reaches", "(III)Z"⟩
abbrev cX10_refusedPairs : ByteArray := prog_1_method_50_code
def yX10_refusedPairs : MethodName := ⟨RX10, "refusedPairs", "(II)I"⟩
abbrev cX10_ofPlayer : ByteArray := prog_1_method_51_code
def yX10_ofPlayer : MethodName := ⟨RX10, "ofPlayer", "(II)I"⟩
abbrev cX10_doCall : ByteArray := prog_1_method_52_code
def yX10_doCall : MethodName := ⟨RX10, "doCall", "(I)I"⟩
abbrev cX10_doRub : ByteArray := prog_1_method_53_code
def yX10_doRub : MethodName := ⟨RX10, "doRub", "(II)V"⟩
abbrev cX10_doLot : ByteArray := prog_1_method_54_code
def yX10_doLot : MethodName := ⟨RX10, "doLot", "(I)V"⟩
abbrev cX10_doAgain : ByteArray := prog_1_method_55_code
def yX10_doAgain : MethodName := ⟨RX10, "doAgain", "()V"⟩
abbrev cX10_callsAhead : ByteArray := prog_1_method_56_code
def yX10_callsAhead : MethodName := ⟨RX10, "callsAhead", "(I)I"⟩
abbrev cX10_stepAhead : ByteArray := prog_1_method_57_code
def yX10_stepAhead : MethodName := ⟨RX10, "stepAhead", "(III)I"⟩
abbrev cX10_layTrail : ByteArray := prog_1_method_58_code
def yX10_layTrail : MethodName := ⟨RX10, "layTrail", "(II)V"⟩
abbrev cX10_winsAhead : ByteArray := prog_1_method_59_code
def yX10_winsAhead : MethodName := ⟨RX10, "winsAhead", "(III)Z"⟩
abbrev cX10_gatherMost : ByteArray := prog_1_method_60_code
def yX10_gatherMost : MethodName := ⟨RX10, "gatherMost", "(III)V"⟩
abbrev cX10_duelAhead : ByteArray := prog_1_method_61_code
def yX10_duelAhead : MethodName := ⟨RX10, "duelAhead", "(IIII)I"⟩
abbrev cX10_marksBy : ByteArray := prog_1_method_62_code
def yX10_marksBy : MethodName := ⟨RX10, "marksBy", "(III)I"⟩
abbrev cX10_fittingKinds : ByteArray := prog_1_method_63_code
def yX10_fittingKinds : MethodName := ⟨RX10, "fittingKinds", "(II)I"⟩
abbrev cX10_fitsPairs : ByteArray := prog_1_method_64_code
def yX10_fitsPairs : MethodName := ⟨RX10, "fitsPairs", "(III)Z"⟩
abbrev cX10_greatestPart : ByteArray := prog_1_method_65_code
def yX10_greatestPart : MethodName := ⟨RX10, "greatestPart", "(III)I"⟩
abbrev cX10_tellAhead : ByteArray := prog_1_method_66_code
def yX10_tellAhead : MethodName := ⟨RX10, "tellAhead", "(IIZ)I"⟩
abbrev cX10_orders : ByteArray := prog_1_method_67_code
def yX10_orders : MethodName := ⟨RX10, "orders", "(I)J"⟩
abbrev cX10_sumAhead : ByteArray := prog_1_method_68_code
def yX10_sumAhead : MethodName := ⟨RX10, "sumAhead", "(IZII)J"⟩
abbrev cX10_tell : ByteArray := prog_1_method_69_code
def yX10_tell : MethodName := ⟨RX10, "tell", "(JJ)V"⟩
abbrev cX10_commonDivisor : ByteArray := prog_1_method_70_code
def yX10_commonDivisor : MethodName := ⟨RX10, "commonDivisor", "(JJ)J"⟩
abbrev cX10_thoseThere : ByteArray := prog_1_method_71_code
def yX10_thoseThere : MethodName := ⟨RX10, "thoseThere", "([I)I"⟩
abbrev cX10_keptHalls : ByteArray := prog_1_method_72_code
def yX10_keptHalls : MethodName := ⟨RX10, "keptHalls", "()I"⟩
def RX11 : String := "CalledNumbersModel"
def TX11 : u_T := fun k => match k with
  | 0 => ("CalledNumbersModel", "size", "[I", true)
  | 1 => ("CalledNumbersModel", "items", "[I", true)
  | 2 => ("CalledNumbersModel", "moved", "[I", true)
  | 3 => ("CalledNumbersModel", "length", "[I", true)
  | 4 => ("CalledNumbersModel", "bytes", "[B", true)
  | 5 => ("CalledNumbersModel", "players", "I", false)
  | 6 => ("CalledNumbersModel", "kind", "[I", true)
  | 7 => ("CalledNumbersModel", "cards", "[I", true)
  | 8 => ("CalledNumbersModel", "newPlayers", "I", false)
  | 9 => ("CalledNumbersModel", "newKind", "[I", true)
  | 10 => ("CalledNumbersModel", "newCards", "[I", true)
  | 11 => ("CalledNumbersModel", "slot", "[I", true)
  | 12 => ("CalledNumbersModel", "deeds", "I", false)
  | 13 => ("CalledNumbersModel", "kept", "[I", true)
  | 14 => ("CalledNumbersModel", "asked", "I", false)
  | 15 => ("CalledNumbersModel", "above", "J", false)
  | 16 => ("CalledNumbersModel", "below", "J", false)
  | 17 => ("CalledNumbersModel", "latest", "I", false)
  | 18 => ("CalledNumbersModel", "often", "[I", true)
  | 19 => ("CalledNumbersModel", "path", "[I", true)
  | 20 => ("CalledNumbersModel", "best", "[I", true)
  | _ => ("CalledNumbersModel", "worth", "[I", true)
def tyX11 : Nat → FieldType := fun k => match k with
  | 0 => .array .int
  | 1 => .array .int
  | 2 => .array .int
  | 3 => .array .int
  | 4 => .array .byte
  | 5 => .int
  | 6 => .array .int
  | 7 => .array .int
  | 8 => .int
  | 9 => .array .int
  | 10 => .array .int
  | 11 => .array .int
  | 12 => .int
  | 13 => .array .int
  | 14 => .int
  | 15 => .long
  | 16 => .long
  | 17 => .int
  | 18 => .array .int
  | 19 => .array .int
  | 20 => .array .int
  | _ => .array .int
abbrev wsX110 : List Cond := u_ws RX11 TX11 22
theorem nmX11 : ∀ a, a < 22 → ∀ b, b < 22 → a ≠ b → (TX11 a).2.1 ≠ (TX11 b).2.1 := by decide +kernel
theorem tyX11_ok : ∀ k, k < 22 → parseFieldDescriptor (TX11 k).2.2.1 = some (tyX11 k) := by decide +kernel
abbrev cX11_init : ByteArray := prog_13_method_1_code
def yX11_init : MethodName := ⟨RX11, "<init>", "()V"⟩
abbrev cX11_in : ByteArray := prog_13_method_2_code
def yX11_in : MethodName := ⟨RX11, "in", "(JJJ)Z"⟩
abbrev cX11_has : ByteArray := prog_13_method_3_code
def yX11_has : MethodName := ⟨RX11, "has", "(II)Z"⟩
abbrev cX11_bits : ByteArray := prog_13_method_4_code
def yX11_bits : MethodName := ⟨RX11, "bits", "(I)I"⟩
abbrev cX11_lesser : ByteArray := prog_13_method_5_code
def yX11_lesser : MethodName := ⟨RX11, "lesser", "(II)I"⟩
abbrev cX11_larger : ByteArray := prog_13_method_6_code
def yX11_larger : MethodName := ⟨RX11, "larger", "(II)I"⟩
abbrev cX11_finds : ByteArray := prog_13_method_7_code
def yX11_finds : MethodName := ⟨RX11, "finds", "(I)I"⟩
abbrev cX11_tells : ByteArray := prog_13_method_8_code
def yX11_tells : MethodName := ⟨RX11, "tells", "(I)I"⟩
abbrev cX11_isRow : ByteArray := prog_13_method_9_code
def yX11_isRow : MethodName := ⟨RX11, "isRow", "(I)Z"⟩
abbrev cX11_isText : ByteArray := prog_13_method_10_code
def yX11_isText : MethodName := ⟨RX11, "isText", "(I)Z"⟩
abbrev cX11_anew : ByteArray := prog_13_method_11_code
def yX11_anew : MethodName := ⟨RX11, "anew", "(II)V"⟩
abbrev cX11_row : ByteArray := prog_13_method_12_code
def yX11_row : MethodName := ⟨RX11, "row", "(II)I"⟩
abbrev cX11_lay : ByteArray := prog_13_method_13_code
def yX11_lay : MethodName := ⟨RX11, "lay", "(III)I"⟩
abbrev cX11_at : ByteArray := prog_13_method_14_code
def yX11_at : MethodName := ⟨RX11, "at", "(II)I"⟩
abbrev cX11_tear : ByteArray := prog_13_method_15_code
def yX11_tear : MethodName := ⟨RX11, "tear", "(I)I"⟩
abbrev cX11_copy : ByteArray := prog_13_method_16_code
def yX11_copy : MethodName := ⟨RX11, "copy", "(IIIII)I"⟩
abbrev cX11_mean : ByteArray := prog_13_method_17_code
def yX11_mean : MethodName := ⟨RX11, "mean", "(I)I"⟩
abbrev cX11_text : ByteArray := prog_13_method_18_code
def yX11_text : MethodName := ⟨RX11, "text", "(II)I"⟩
abbrev cX11_put : ByteArray := prog_13_method_19_code
def yX11_put : MethodName := ⟨RX11, "put", "(III)I"⟩
abbrev cX11_kindOf : ByteArray := prog_13_method_20_code
def yX11_kindOf : MethodName := ⟨RX11, "kindOf", "(I)I"⟩
abbrev cX11_isFigure : ByteArray := prog_13_method_21_code
def yX11_isFigure : MethodName := ⟨RX11, "isFigure", "(II)Z"⟩
abbrev cX11_isOn : ByteArray := prog_13_method_22_code
def yX11_isOn : MethodName := ⟨RX11, "isOn", "(III)Z"⟩
abbrev cX11_numbers : ByteArray := prog_13_method_23_code
def yX11_numbers : MethodName := ⟨RX11, "numbers", "(III)I"⟩
abbrev cX11_faultOf : ByteArray := prog_13_method_24_code
def yX11_faultOf : MethodName := ⟨RX11, "faultOf", "(I)I"⟩
abbrev cX11_fault : ByteArray := prog_13_method_25_code
def yX11_fault : MethodName := ⟨RX11, "fault", "(I)I"⟩
abbrev cX11_hall : ByteArray := prog_13_method_26_code
def yX11_hall : MethodName := ⟨RX11, "hall", "(I)I"⟩
abbrev cX11_isPlayer : ByteArray := prog_13_method_27_code
def yX11_isPlayer : MethodName := ⟨RX11, "isPlayer", "(I)Z"⟩
abbrev cX11_isA : ByteArray := prog_13_method_28_code
def yX11_isA : MethodName := ⟨RX11, "isA", "(II)Z"⟩
abbrev cX11_heard : ByteArray := prog_13_method_29_code
def yX11_heard : MethodName := ⟨RX11, "heard", "(IIII)I"⟩
abbrev cX11_needs : ByteArray := prog_13_method_30_code
def yX11_needs : MethodName := ⟨RX11, "needs", "(II)I"⟩
abbrev cX11_marksBy : ByteArray := prog_13_method_31_code
def yX11_marksBy : MethodName := ⟨RX11, "marksBy", "(II)I"⟩
abbrev cX11_calls : ByteArray := prog_13_method_32_code
def yX11_calls : MethodName := ⟨RX11, "calls", "(II)I"⟩
abbrev cX11_told : ByteArray := prog_13_method_33_code
def yX11_told : MethodName := ⟨RX11, "told", "(II)I"⟩
abbrev cX11_player : ByteArray := prog_13_method_34_code
def yX11_player : MethodName := ⟨RX11, "player", "(II)I"⟩
abbrev cX11_card : ByteArray := prog_13_method_35_code
def yX11_card : MethodName := ⟨RX11, "card", "(II)I"⟩
abbrev cX11_mark : ByteArray := prog_13_method_36_code
def yX11_mark : MethodName := ⟨RX11, "mark", "(II)I"⟩
abbrev cX11_copies : ByteArray := prog_13_method_37_code
def yX11_copies : MethodName := ⟨RX11, "copies", "(III)V"⟩
abbrev cX11_known : ByteArray := prog_13_method_38_code
def yX11_known : MethodName := ⟨RX11, "known", "()V"⟩
abbrev cX11_call : ByteArray := prog_13_method_39_code
def yX11_call : MethodName := ⟨RX11, "call", "(I)I"⟩
abbrev cX11_rub : ByteArray := prog_13_method_40_code
def yX11_rub : MethodName := ⟨RX11, "rub", "(II)I"⟩
abbrev cX11_undo : ByteArray := prog_13_method_41_code
def yX11_undo : MethodName := ⟨RX11, "undo", "(I)I"⟩
abbrev cX11_keep : ByteArray := prog_13_method_42_code
def yX11_keep : MethodName := ⟨RX11, "keep", "(I)I"⟩
abbrev cX11_on : ByteArray := prog_13_method_43_code
def yX11_on : MethodName := ⟨RX11, "on", "(I)I"⟩
abbrev cX11_hears : ByteArray := prog_13_method_44_code
def yX11_hears : MethodName := ⟨RX11, "hears", "(IIII)I"⟩
abbrev cX11_run : ByteArray := prog_13_method_45_code
def yX11_run : MethodName := ⟨RX11, "run", "(I)I"⟩
abbrev cX11_safe : ByteArray := prog_13_method_46_code
def yX11_safe : MethodName := ⟨RX11, "safe", "()I"⟩
abbrev cX11_follows : ByteArray := prog_13_method_47_code
def yX11_follows : MethodName := ⟨RX11, "follows", "(IZ)Z"⟩
abbrev cX11_comes : ByteArray := prog_13_method_48_code
def yX11_comes : MethodName := ⟨RX11, "comes", "(II)V"⟩
abbrev cX11_takes : ByteArray := prog_13_method_49_code
def yX11_takes : MethodName := ⟨RX11, "takes", "(I)V"⟩
abbrev cX11_fewest : ByteArray := prog_13_method_50_code
def yX11_fewest : MethodName := ⟨RX11, "fewest", "(II)I"⟩
abbrev cX11_most : ByteArray := prog_13_method_51_code
def yX11_most : MethodName := ⟨RX11, "most", "(II)I"⟩
abbrev cX11_which : ByteArray := prog_13_method_52_code
def yX11_which : MethodName := ⟨RX11, "which", "(II)I"⟩
abbrev cX11_wrongOf : ByteArray := prog_13_method_53_code
def yX11_wrongOf : MethodName := ⟨RX11, "wrongOf", "(I)I"⟩
abbrev cX11_kindsBy : ByteArray := prog_13_method_54_code
def yX11_kindsBy : MethodName := ⟨RX11, "kindsBy", "(II)I"⟩
abbrev cX11_kinds : ByteArray := prog_13_method_55_code
def yX11_kinds : MethodName := ⟨RX11, "kinds", "(II)I"⟩
abbrev cX11_part : ByteArray := prog_13_method_56_code
def yX11_part : MethodName := ⟨RX11, "part", "(III)I"⟩
abbrev cX11_next : ByteArray := prog_13_method_57_code
def yX11_next : MethodName := ⟨RX11, "next", "(II)I"⟩
abbrev cX11_worthOf : ByteArray := prog_13_method_58_code
def yX11_worthOf : MethodName := ⟨RX11, "worthOf", "(III)I"⟩
abbrev cX11_duel : ByteArray := prog_13_method_59_code
def yX11_duel : MethodName := ⟨RX11, "duel", "(III)I"⟩
abbrev cX11_better : ByteArray := prog_13_method_60_code
def yX11_better : MethodName := ⟨RX11, "better", "(II)V"⟩
abbrev cX11_fraction : ByteArray := prog_13_method_61_code
def yX11_fraction : MethodName := ⟨RX11, "fraction", "(JJ)I"⟩
abbrev cX11_lot : ByteArray := prog_13_method_62_code
def yX11_lot : MethodName := ⟨RX11, "lot", "(IIZ)I"⟩
abbrev cX11_odds : ByteArray := prog_13_method_63_code
def yX11_odds : MethodName := ⟨RX11, "odds", "(II)I"⟩
abbrev cX11_mid : ByteArray := prog_13_method_64_code
def yX11_mid : MethodName := ⟨RX11, "mid", "(II)I"⟩
abbrev cX11_lots : ByteArray := prog_13_method_65_code
def yX11_lots : MethodName := ⟨RX11, "lots", "(II)I"⟩
abbrev cX11_asked : ByteArray := prog_13_method_66_code
def yX11_asked : MethodName := ⟨RX11, "asked", "()I"⟩
abbrev cX11_upper : ByteArray := prog_13_method_67_code
def yX11_upper : MethodName := ⟨RX11, "upper", "()J"⟩
abbrev cX11_lower : ByteArray := prog_13_method_68_code
def yX11_lower : MethodName := ⟨RX11, "lower", "()J"⟩
abbrev cX11_manyOf : ByteArray := prog_13_method_69_code
def yX11_manyOf : MethodName := ⟨RX11, "manyOf", "(I)I"⟩
abbrev cX11_allMarks : ByteArray := prog_13_method_70_code
def yX11_allMarks : MethodName := ⟨RX11, "allMarks", "()I"⟩
abbrev cX11_thereAre : ByteArray := prog_13_method_71_code
def yX11_thereAre : MethodName := ⟨RX11, "thereAre", "(I)I"⟩
abbrev cX11_countOf : ByteArray := prog_13_method_72_code
def yX11_countOf : MethodName := ⟨RX11, "countOf", "(I)I"⟩
abbrev cX11_count : ByteArray := prog_13_method_73_code
def yX11_count : MethodName := ⟨RX11, "count", "(I)I"⟩
abbrev cX11_finding : ByteArray := prog_13_method_74_code
def yX11_finding : MethodName := ⟨RX11, "finding", "()I"⟩
abbrev cX11_findings : ByteArray := prog_13_method_75_code
def yX11_findings : MethodName := ⟨RX11, "findings", "(I)I"⟩
abbrev cX11_digest : ByteArray := prog_13_method_76_code
def yX11_digest : MethodName := ⟨RX11, "digest", "()J"⟩
def RJ6 : String := "java/lang/Integer"
def TJ6 : u_T := fun k => match k with
  | _ => ("", "", "", false)
def tyJ6 : Nat → FieldType := fun k => match k with
  | _ => .int
abbrev wsJ60 : List Cond := u_ws RJ6 TJ6 0
theorem nmJ6 : ∀ a, a < 0 → ∀ b, b < 0 → a ≠ b → (TJ6 a).2.1 ≠ (TJ6 b).2.1 := by decide +kernel
theorem tyJ6_ok : ∀ k, k < 0 → parseFieldDescriptor (TJ6 k).2.2.1 = some (tyJ6 k) := by decide +kernel
abbrev cJ6_bitCount_0f7a4 : ByteArray := prog_14_method_49_code
def yJ6_bitCount_0f7a4 : MethodName := ⟨RJ6, "bitCount", "(I)I"⟩
def RJ9 : String := "java/lang/Math"
def TJ9 : u_T := fun k => match k with
  | _ => ("", "", "", false)
def tyJ9 : Nat → FieldType := fun k => match k with
  | _ => .int
abbrev wsJ90 : List Cond := u_ws RJ9 TJ9 0
theorem nmJ9 : ∀ a, a < 0 → ∀ b, b < 0 → a ≠ b → (TJ9 a).2.1 ≠ (TJ9 b).2.1 := by decide +kernel
theorem tyJ9_ok : ∀ k, k < 0 → parseFieldDescriptor (TJ9 k).2.2.1 = some (tyJ9 k) := by decide +kernel
abbrev cJ9_max_7cf53 : ByteArray := prog_15_method_65_code
def yJ9_max_7cf53 : MethodName := ⟨RJ9, "max", "(II)I"⟩
abbrev cJ9_min_7cf53 : ByteArray := prog_15_method_69_code
def yJ9_min_7cf53 : MethodName := ⟨RJ9, "min", "(II)I"⟩
def RJ10 : String := "java/lang/System"
def TJ10 : u_T := fun k => match k with
  | _ => ("", "", "", false)
def tyJ10 : Nat → FieldType := fun k => match k with
  | _ => .int
abbrev wsJ100 : List Cond := u_ws RJ10 TJ10 0
theorem nmJ10 : ∀ a, a < 0 → ∀ b, b < 0 → a ≠ b → (TJ10 a).2.1 ≠ (TJ10 b).2.1 := by decide +kernel
theorem tyJ10_ok : ∀ k, k < 0 → parseFieldDescriptor (TJ10 k).2.2.1 = some (tyJ10 k) := by decide +kernel
def RJ7 : String := "java/util/Arrays"
def TJ7 : u_T := fun k => match k with
  | _ => ("", "", "", false)
def tyJ7 : Nat → FieldType := fun k => match k with
  | _ => .int
abbrev wsJ70 : List Cond := u_ws RJ7 TJ7 0
theorem nmJ7 : ∀ a, a < 0 → ∀ b, b < 0 → a ≠ b → (TJ7 a).2.1 ≠ (TJ7 b).2.1 := by decide +kernel
theorem tyJ7_ok : ∀ k, k < 0 → parseFieldDescriptor (TJ7 k).2.2.1 = some (tyJ7 k) := by decide +kernel
abbrev cJ7_fill_53178 : ByteArray := prog_17_method_103_code
def yJ7_fill_53178 : MethodName := ⟨RJ7, "fill", "([II)V"⟩
abbrev cJ7_fill_031fb : ByteArray := prog_17_method_109_code
def yJ7_fill_031fb : MethodName := ⟨RJ7, "fill", "([BB)V"⟩
def RL : String := "CalledNumbersLaw"
abbrev cL_law : ByteArray := code
def yL_law : MethodName := ⟨RL, "law", "([I)Z"⟩
abbrev vwCl : List vw_C := [(RX0, TX0, 0), (RX1, TX1, 2), (RX2, TX2, 6), (RX3, TX3, 0), (RX4, TX4, 0), (RX5, TX5, 0), (RX6, TX6, 3), (RX7, TX7, 5), (RX8, TX8, 0), (RX9, TX9, 0), (RX10, TX10, 18), (RX11, TX11, 22)]
end
section
theorem dX0_init_0 : decode cX0_init 0 = .ok (.aload_n 0, 1) := by decide +kernel
theorem dX0_init_1 : decode cX0_init 1 = .ok (.invokespecial 1, 3) := by decide +kernel
theorem dX0_init_4 : decode cX0_init 4 = .ok (.return_, 1) := by decide +kernel
theorem dX0_heard_0 : decode cX0_heard 0 = .ok (.iload_n 3, 1) := by decide +kernel
theorem dX0_heard_1 : decode cX0_heard 1 = .ok (.iconst 3, 1) := by decide +kernel
theorem dX0_heard_2 : decode cX0_heard 2 = .ok (.irem, 1) := by decide +kernel
theorem dX0_heard_3 : decode cX0_heard 3 = .ok (.iconst 2, 1) := by decide +kernel
theorem dX0_heard_4 : decode cX0_heard 4 = .ok (.if_icmp .ne 7, 3) := by decide +kernel
theorem dX0_heard_7 : decode cX0_heard 7 = .ok (.iconst 0, 1) := by decide +kernel
theorem dX0_heard_8 : decode cX0_heard 8 = .ok (.goto 6, 3) := by decide +kernel
theorem dX0_heard_11 : decode cX0_heard 11 = .ok (.iconst 1, 1) := by decide +kernel
theorem dX0_heard_12 : decode cX0_heard 12 = .ok (.iload_n 1, 1) := by decide +kernel
theorem dX0_heard_13 : decode cX0_heard 13 = .ok (.ishl, 1) := by decide +kernel
theorem dX0_heard_14 : decode cX0_heard 14 = .ok (.ireturn, 1) := by decide +kernel
theorem dX0_callsTillDeaf_0 : decode cX0_callsTillDeaf 0 = .ok (.iconst 2, 1) := by decide +kernel
theorem dX0_callsTillDeaf_1 : decode cX0_callsTillDeaf 1 = .ok (.iload_n 1, 1) := by decide +kernel
theorem dX0_callsTillDeaf_2 : decode cX0_callsTillDeaf 2 = .ok (.iconst 3, 1) := by decide +kernel
theorem dX0_callsTillDeaf_3 : decode cX0_callsTillDeaf 3 = .ok (.irem, 1) := by decide +kernel
theorem dX0_callsTillDeaf_4 : decode cX0_callsTillDeaf 4 = .ok (.isub, 1) := by decide +kernel
theorem dX0_callsTillDeaf_5 : decode cX0_callsTillDeaf 5 = .ok (.ireturn, 1) := by decide +kernel
theorem dX1_init_0 : decode cX1_init 0 = .ok (.aload_n 0, 1) := by decide +kernel
theorem dX1_init_1 : decode cX1_init 1 = .ok (.invokespecial 3, 3) := by decide +kernel
theorem dX1_init_4 : decode cX1_init 4 = .ok (.aload_n 0, 1) := by decide +kernel
theorem dX1_init_5 : decode cX1_init 5 = .ok (.bipush 40, 2) := by decide +kernel
theorem dX1_init_7 : decode cX1_init 7 = .ok (.newarray .int, 2) := by decide +kernel
theorem dX1_init_9 : decode cX1_init 9 = .ok (.putfield 9, 3) := by decide +kernel
theorem dX1_init_12 : decode cX1_init 12 = .ok (.return_, 1) := by decide +kernel
theorem dX1_add_0 : decode cX1_add 0 = .ok (.aload_n 0, 1) := by decide +kernel
theorem dX1_add_1 : decode cX1_add 1 = .ok (.getfield 15, 3) := by decide +kernel
theorem dX1_add_4 : decode cX1_add 4 = .ok (.bipush 40, 2) := by decide +kernel
theorem dX1_add_6 : decode cX1_add 6 = .ok (.if_icmp .ge 23, 3) := by decide +kernel
theorem dX1_add_9 : decode cX1_add 9 = .ok (.aload_n 0, 1) := by decide +kernel
theorem dX1_add_10 : decode cX1_add 10 = .ok (.getfield 9, 3) := by decide +kernel
theorem dX1_add_13 : decode cX1_add 13 = .ok (.aload_n 0, 1) := by decide +kernel
theorem dX1_add_14 : decode cX1_add 14 = .ok (.getfield 15, 3) := by decide +kernel
theorem dX1_add_17 : decode cX1_add 17 = .ok (.iload_n 1, 1) := by decide +kernel
theorem dX1_add_18 : decode cX1_add 18 = .ok (.iastore, 1) := by decide +kernel
theorem dX1_add_19 : decode cX1_add 19 = .ok (.aload_n 0, 1) := by decide +kernel
theorem dX1_add_20 : decode cX1_add 20 = .ok (.dup, 1) := by decide +kernel
theorem dX1_add_21 : decode cX1_add 21 = .ok (.getfield 15, 3) := by decide +kernel
theorem dX1_add_24 : decode cX1_add 24 = .ok (.iconst 1, 1) := by decide +kernel
theorem dX1_add_25 : decode cX1_add 25 = .ok (.iadd, 1) := by decide +kernel
theorem dX1_add_26 : decode cX1_add 26 = .ok (.putfield 15, 3) := by decide +kernel
theorem dX1_add_29 : decode cX1_add 29 = .ok (.return_, 1) := by decide +kernel
theorem dX1_take_0 : decode cX1_take 0 = .ok (.aload_n 0, 1) := by decide +kernel
theorem dX1_take_1 : decode cX1_take 1 = .ok (.aload_n 1, 1) := by decide +kernel
theorem dX1_take_2 : decode cX1_take 2 = .ok (.getfield 15, 3) := by decide +kernel
theorem dX1_take_5 : decode cX1_take 5 = .ok (.putfield 15, 3) := by decide +kernel
theorem dX1_take_8 : decode cX1_take 8 = .ok (.iconst 0, 1) := by decide +kernel
theorem dX1_take_9 : decode cX1_take 9 = .ok (.istore_n 2, 1) := by decide +kernel
theorem dX1_take_10 : decode cX1_take 10 = .ok (.iload_n 2, 1) := by decide +kernel
theorem dX1_take_11 : decode cX1_take 11 = .ok (.aload_n 0, 1) := by decide +kernel
theorem dX1_take_12 : decode cX1_take 12 = .ok (.getfield 15, 3) := by decide +kernel
theorem dX1_take_15 : decode cX1_take 15 = .ok (.if_icmp .ge 21, 3) := by decide +kernel
theorem dX1_take_18 : decode cX1_take 18 = .ok (.aload_n 0, 1) := by decide +kernel
theorem dX1_take_19 : decode cX1_take 19 = .ok (.getfield 9, 3) := by decide +kernel
theorem dX1_take_22 : decode cX1_take 22 = .ok (.iload_n 2, 1) := by decide +kernel
theorem dX1_take_23 : decode cX1_take 23 = .ok (.aload_n 1, 1) := by decide +kernel
theorem dX1_take_24 : decode cX1_take 24 = .ok (.getfield 9, 3) := by decide +kernel
theorem dX1_take_27 : decode cX1_take 27 = .ok (.iload_n 2, 1) := by decide +kernel
theorem dX1_take_28 : decode cX1_take 28 = .ok (.iaload, 1) := by decide +kernel
theorem dX1_take_29 : decode cX1_take 29 = .ok (.iastore, 1) := by decide +kernel
theorem dX1_take_30 : decode cX1_take 30 = .ok (.iinc 2 1, 3) := by decide +kernel
theorem dX1_take_33 : decode cX1_take 33 = .ok (.goto (-23), 3) := by decide +kernel
theorem dX1_take_36 : decode cX1_take 36 = .ok (.return_, 1) := by decide +kernel
theorem dX2_init_0 : decode cX2_init 0 = .ok (.aload_n 0, 1) := by decide +kernel
theorem dX2_init_1 : decode cX2_init 1 = .ok (.invokespecial 3, 3) := by decide +kernel
theorem dX2_init_4 : decode cX2_init 4 = .ok (.aload_n 0, 1) := by decide +kernel
theorem dX2_init_5 : decode cX2_init 5 = .ok (.iconst 4, 1) := by decide +kernel
theorem dX2_init_6 : decode cX2_init 6 = .ok (.newarray .int, 2) := by decide +kernel
theorem dX2_init_8 : decode cX2_init 8 = .ok (.putfield 9, 3) := by decide +kernel
theorem dX2_init_11 : decode cX2_init 11 = .ok (.aload_n 0, 1) := by decide +kernel
theorem dX2_init_12 : decode cX2_init 12 = .ok (.aload_n 1, 1) := by decide +kernel
theorem dX2_init_13 : decode cX2_init 13 = .ok (.putfield 15, 3) := by decide +kernel
theorem dX2_init_16 : decode cX2_init 16 = .ok (.return_, 1) := by decide +kernel
theorem dX2_begin_0 : decode cX2_begin 0 = .ok (.aload_n 0, 1) := by decide +kernel
theorem dX2_begin_1 : decode cX2_begin 1 = .ok (.getfield 9, 3) := by decide +kernel
theorem dX2_begin_4 : decode cX2_begin 4 = .ok (.iconst 0, 1) := by decide +kernel
theorem dX2_begin_5 : decode cX2_begin 5 = .ok (.invokestatic 19, 3) := by decide +kernel
theorem dX2_begin_8 : decode cX2_begin 8 = .ok (.aload_n 0, 1) := by decide +kernel
theorem dX2_begin_9 : decode cX2_begin 9 = .ok (.iconst 0, 1) := by decide +kernel
theorem dX2_begin_10 : decode cX2_begin 10 = .ok (.putfield 25, 3) := by decide +kernel
theorem dX2_begin_13 : decode cX2_begin 13 = .ok (.aload_n 0, 1) := by decide +kernel
theorem dX2_begin_14 : decode cX2_begin 14 = .ok (.aload_n 0, 1) := by decide +kernel
theorem dX2_begin_15 : decode cX2_begin 15 = .ok (.getfield 15, 3) := by decide +kernel
theorem dX2_begin_18 : decode cX2_begin 18 = .ok (.getfield 29, 3) := by decide +kernel
theorem dX2_begin_21 : decode cX2_begin 21 = .ok (.ifCond .ne 7, 3) := by decide +kernel
theorem dX2_begin_24 : decode cX2_begin 24 = .ok (.iconst 0, 1) := by decide +kernel
theorem dX2_begin_25 : decode cX2_begin 25 = .ok (.goto 6, 3) := by decide +kernel
theorem dX2_begin_28 : decode cX2_begin 28 = .ok (.sipush 8190, 3) := by decide +kernel
theorem dX2_begin_31 : decode cX2_begin 31 = .ok (.putfield 34, 3) := by decide +kernel
theorem dX2_begin_34 : decode cX2_begin 34 = .ok (.aload_n 0, 1) := by decide +kernel
theorem dX2_begin_35 : decode cX2_begin 35 = .ok (.iconst 0, 1) := by decide +kernel
theorem dX2_begin_36 : decode cX2_begin 36 = .ok (.putfield 37, 3) := by decide +kernel
theorem dX2_begin_39 : decode cX2_begin 39 = .ok (.aload_n 0, 1) := by decide +kernel
theorem dX2_begin_40 : decode cX2_begin 40 = .ok (.iconst 0, 1) := by decide +kernel
theorem dX2_begin_41 : decode cX2_begin 41 = .ok (.putfield 40, 3) := by decide +kernel
theorem dX2_begin_44 : decode cX2_begin 44 = .ok (.return_, 1) := by decide +kernel
theorem dX2_take_0 : decode cX2_take 0 = .ok (.iconst 0, 1) := by decide +kernel
theorem dX2_take_1 : decode cX2_take 1 = .ok (.istore_n 2, 1) := by decide +kernel
theorem dX2_take_2 : decode cX2_take 2 = .ok (.iload_n 2, 1) := by decide +kernel
theorem dX2_take_3 : decode cX2_take 3 = .ok (.iconst 4, 1) := by decide +kernel
theorem dX2_take_4 : decode cX2_take 4 = .ok (.if_icmp .ge 21, 3) := by decide +kernel
theorem dX2_take_7 : decode cX2_take 7 = .ok (.aload_n 0, 1) := by decide +kernel
theorem dX2_take_8 : decode cX2_take 8 = .ok (.getfield 9, 3) := by decide +kernel
theorem dX2_take_11 : decode cX2_take 11 = .ok (.iload_n 2, 1) := by decide +kernel
theorem dX2_take_12 : decode cX2_take 12 = .ok (.aload_n 1, 1) := by decide +kernel
theorem dX2_take_13 : decode cX2_take 13 = .ok (.getfield 9, 3) := by decide +kernel
theorem dX2_take_16 : decode cX2_take 16 = .ok (.iload_n 2, 1) := by decide +kernel
theorem dX2_take_17 : decode cX2_take 17 = .ok (.iaload, 1) := by decide +kernel
theorem dX2_take_18 : decode cX2_take 18 = .ok (.iastore, 1) := by decide +kernel
theorem dX2_take_19 : decode cX2_take 19 = .ok (.iinc 2 1, 3) := by decide +kernel
theorem dX2_take_22 : decode cX2_take 22 = .ok (.goto (-20), 3) := by decide +kernel
theorem dX2_take_25 : decode cX2_take 25 = .ok (.aload_n 0, 1) := by decide +kernel
theorem dX2_take_26 : decode cX2_take 26 = .ok (.aload_n 1, 1) := by decide +kernel
theorem dX2_take_27 : decode cX2_take 27 = .ok (.getfield 25, 3) := by decide +kernel
theorem dX2_take_30 : decode cX2_take 30 = .ok (.putfield 25, 3) := by decide +kernel
theorem dX2_take_33 : decode cX2_take 33 = .ok (.aload_n 0, 1) := by decide +kernel
theorem dX2_take_34 : decode cX2_take 34 = .ok (.aload_n 1, 1) := by decide +kernel
theorem dX2_take_35 : decode cX2_take 35 = .ok (.getfield 34, 3) := by decide +kernel
theorem dX2_take_38 : decode cX2_take 38 = .ok (.putfield 34, 3) := by decide +kernel
theorem dX2_take_41 : decode cX2_take 41 = .ok (.aload_n 0, 1) := by decide +kernel
theorem dX2_take_42 : decode cX2_take 42 = .ok (.aload_n 1, 1) := by decide +kernel
theorem dX2_take_43 : decode cX2_take 43 = .ok (.getfield 37, 3) := by decide +kernel
theorem dX2_take_46 : decode cX2_take 46 = .ok (.putfield 37, 3) := by decide +kernel
theorem dX2_take_49 : decode cX2_take 49 = .ok (.aload_n 0, 1) := by decide +kernel
theorem dX2_take_50 : decode cX2_take 50 = .ok (.aload_n 1, 1) := by decide +kernel
theorem dX2_take_51 : decode cX2_take 51 = .ok (.getfield 40, 3) := by decide +kernel
theorem dX2_take_54 : decode cX2_take 54 = .ok (.putfield 40, 3) := by decide +kernel
theorem dX2_take_57 : decode cX2_take 57 = .ok (.return_, 1) := by decide +kernel
theorem dX2_holds_0 : decode cX2_holds 0 = .ok (.aload_n 0, 1) := by decide +kernel
theorem dX2_holds_1 : decode cX2_holds 1 = .ok (.getfield 34, 3) := by decide +kernel
theorem dX2_holds_4 : decode cX2_holds 4 = .ok (.iload_n 1, 1) := by decide +kernel
theorem dX2_holds_5 : decode cX2_holds 5 = .ok (.ishr, 1) := by decide +kernel
theorem dX2_holds_6 : decode cX2_holds 6 = .ok (.iconst 1, 1) := by decide +kernel
theorem dX2_holds_7 : decode cX2_holds 7 = .ok (.iand, 1) := by decide +kernel
theorem dX2_holds_8 : decode cX2_holds 8 = .ok (.iconst 1, 1) := by decide +kernel
theorem dX2_holds_9 : decode cX2_holds 9 = .ok (.if_icmp .ne 7, 3) := by decide +kernel
theorem dX2_holds_12 : decode cX2_holds 12 = .ok (.iconst 1, 1) := by decide +kernel
theorem dX2_holds_13 : decode cX2_holds 13 = .ok (.goto 4, 3) := by decide +kernel
theorem dX2_holds_16 : decode cX2_holds 16 = .ok (.iconst 0, 1) := by decide +kernel
theorem dX2_holds_17 : decode cX2_holds 17 = .ok (.ireturn, 1) := by decide +kernel
theorem dX2_hasWon_0 : decode cX2_hasWon 0 = .ok (.aload_n 0, 1) := by decide +kernel
theorem dX2_hasWon_1 : decode cX2_hasWon 1 = .ok (.getfield 25, 3) := by decide +kernel
theorem dX2_hasWon_4 : decode cX2_hasWon 4 = .ok (.iload_n 1, 1) := by decide +kernel
theorem dX2_hasWon_5 : decode cX2_hasWon 5 = .ok (.ishr, 1) := by decide +kernel
theorem dX2_hasWon_6 : decode cX2_hasWon 6 = .ok (.iconst 1, 1) := by decide +kernel
theorem dX2_hasWon_7 : decode cX2_hasWon 7 = .ok (.iand, 1) := by decide +kernel
theorem dX2_hasWon_8 : decode cX2_hasWon 8 = .ok (.iconst 1, 1) := by decide +kernel
theorem dX2_hasWon_9 : decode cX2_hasWon 9 = .ok (.if_icmp .ne 7, 3) := by decide +kernel
theorem dX2_hasWon_12 : decode cX2_hasWon 12 = .ok (.iconst 1, 1) := by decide +kernel
theorem dX2_hasWon_13 : decode cX2_hasWon 13 = .ok (.goto 4, 3) := by decide +kernel
theorem dX2_hasWon_16 : decode cX2_hasWon 16 = .ok (.iconst 0, 1) := by decide +kernel
theorem dX2_hasWon_17 : decode cX2_hasWon 17 = .ok (.ireturn, 1) := by decide +kernel
theorem dX2_ring_0 : decode cX2_ring 0 = .ok (.aload_n 0, 1) := by decide +kernel
theorem dX2_ring_1 : decode cX2_ring 1 = .ok (.getfield 25, 3) := by decide +kernel
theorem dX2_ring_4 : decode cX2_ring 4 = .ok (.istore_n 3, 1) := by decide +kernel
theorem dX2_ring_5 : decode cX2_ring 5 = .ok (.iconst 0, 1) := by decide +kernel
theorem dX2_ring_6 : decode cX2_ring 6 = .ok (.istore 4, 2) := by decide +kernel
theorem dX2_ring_8 : decode cX2_ring 8 = .ok (.iload 4, 2) := by decide +kernel
theorem dX2_ring_10 : decode cX2_ring 10 = .ok (.aload_n 0, 1) := by decide +kernel
theorem dX2_ring_11 : decode cX2_ring 11 = .ok (.getfield 15, 3) := by decide +kernel
theorem dX2_ring_14 : decode cX2_ring 14 = .ok (.getfield 29, 3) := by decide +kernel
theorem dX2_ring_17 : decode cX2_ring 17 = .ok (.if_icmp .ge 95, 3) := by decide +kernel
theorem dX2_ring_20 : decode cX2_ring 20 = .ok (.iload_n 2, 1) := by decide +kernel
theorem dX2_ring_21 : decode cX2_ring 21 = .ok (.iload 4, 2) := by decide +kernel
theorem dX2_ring_23 : decode cX2_ring 23 = .ok (.ishr, 1) := by decide +kernel
theorem dX2_ring_24 : decode cX2_ring 24 = .ok (.iconst 1, 1) := by decide +kernel
theorem dX2_ring_25 : decode cX2_ring 25 = .ok (.iand, 1) := by decide +kernel
theorem dX2_ring_26 : decode cX2_ring 26 = .ok (.iconst 1, 1) := by decide +kernel
theorem dX2_ring_27 : decode cX2_ring 27 = .ok (.if_icmp .ne 79, 3) := by decide +kernel
theorem dX2_ring_30 : decode cX2_ring 30 = .ok (.aload_n 0, 1) := by decide +kernel
theorem dX2_ring_31 : decode cX2_ring 31 = .ok (.getfield 15, 3) := by decide +kernel
theorem dX2_ring_34 : decode cX2_ring 34 = .ok (.iload 4, 2) := by decide +kernel
theorem dX2_ring_36 : decode cX2_ring 36 = .ok (.invokevirtual 43, 3) := by decide +kernel
theorem dX2_ring_39 : decode cX2_ring 39 = .ok (.astore 5, 2) := by decide +kernel
theorem dX2_ring_41 : decode cX2_ring 41 = .ok (.aload_n 0, 1) := by decide +kernel
theorem dX2_ring_42 : decode cX2_ring 42 = .ok (.getfield 9, 3) := by decide +kernel
theorem dX2_ring_45 : decode cX2_ring 45 = .ok (.iload 4, 2) := by decide +kernel
theorem dX2_ring_47 : decode cX2_ring 47 = .ok (.aload_n 0, 1) := by decide +kernel
theorem dX2_ring_48 : decode cX2_ring 48 = .ok (.getfield 15, 3) := by decide +kernel
theorem dX2_ring_51 : decode cX2_ring 51 = .ok (.iload 4, 2) := by decide +kernel
theorem dX2_ring_53 : decode cX2_ring 53 = .ok (.aload_n 0, 1) := by decide +kernel
theorem dX2_ring_54 : decode cX2_ring 54 = .ok (.getfield 9, 3) := by decide +kernel
theorem dX2_ring_57 : decode cX2_ring 57 = .ok (.iload 4, 2) := by decide +kernel
theorem dX2_ring_59 : decode cX2_ring 59 = .ok (.iaload, 1) := by decide +kernel
theorem dX2_ring_60 : decode cX2_ring 60 = .ok (.aload 5, 2) := by decide +kernel
theorem dX2_ring_62 : decode cX2_ring 62 = .ok (.iload_n 1, 1) := by decide +kernel
theorem dX2_ring_63 : decode cX2_ring 63 = .ok (.aload_n 0, 1) := by decide +kernel
theorem dX2_ring_64 : decode cX2_ring 64 = .ok (.getfield 37, 3) := by decide +kernel
theorem dX2_ring_67 : decode cX2_ring 67 = .ok (.aload_n 0, 1) := by decide +kernel
theorem dX2_ring_68 : decode cX2_ring 68 = .ok (.getfield 40, 3) := by decide +kernel
theorem dX2_ring_71 : decode cX2_ring 71 = .ok (.invokevirtual 47, 3) := by decide +kernel
theorem dX2_ring_74 : decode cX2_ring 74 = .ok (.invokevirtual 53, 3) := by decide +kernel
theorem dX2_ring_77 : decode cX2_ring 77 = .ok (.iastore, 1) := by decide +kernel
theorem dX2_ring_78 : decode cX2_ring 78 = .ok (.aload 5, 2) := by decide +kernel
theorem dX2_ring_80 : decode cX2_ring 80 = .ok (.aload_n 0, 1) := by decide +kernel
theorem dX2_ring_81 : decode cX2_ring 81 = .ok (.getfield 9, 3) := by decide +kernel
theorem dX2_ring_84 : decode cX2_ring 84 = .ok (.iload 4, 2) := by decide +kernel
theorem dX2_ring_86 : decode cX2_ring 86 = .ok (.iaload, 1) := by decide +kernel
theorem dX2_ring_87 : decode cX2_ring 87 = .ok (.invokevirtual 56, 3) := by decide +kernel
theorem dX2_ring_90 : decode cX2_ring 90 = .ok (.ifCond .ne 16, 3) := by decide +kernel
theorem dX2_ring_93 : decode cX2_ring 93 = .ok (.aload_n 0, 1) := by decide +kernel
theorem dX2_ring_94 : decode cX2_ring 94 = .ok (.dup, 1) := by decide +kernel
theorem dX2_ring_95 : decode cX2_ring 95 = .ok (.getfield 25, 3) := by decide +kernel
theorem dX2_ring_98 : decode cX2_ring 98 = .ok (.iconst 1, 1) := by decide +kernel
theorem dX2_ring_99 : decode cX2_ring 99 = .ok (.iload 4, 2) := by decide +kernel
theorem dX2_ring_101 : decode cX2_ring 101 = .ok (.ishl, 1) := by decide +kernel
theorem dX2_ring_102 : decode cX2_ring 102 = .ok (.ior, 1) := by decide +kernel
theorem dX2_ring_103 : decode cX2_ring 103 = .ok (.putfield 25, 3) := by decide +kernel
theorem dX2_ring_106 : decode cX2_ring 106 = .ok (.iinc 4 1, 3) := by decide +kernel
theorem dX2_ring_109 : decode cX2_ring 109 = .ok (.goto (-101), 3) := by decide +kernel
theorem dX2_ring_112 : decode cX2_ring 112 = .ok (.aload_n 0, 1) := by decide +kernel
theorem dX2_ring_113 : decode cX2_ring 113 = .ok (.dup, 1) := by decide +kernel
theorem dX2_ring_114 : decode cX2_ring 114 = .ok (.getfield 34, 3) := by decide +kernel
theorem dX2_ring_117 : decode cX2_ring 117 = .ok (.iconst 1, 1) := by decide +kernel
theorem dX2_ring_118 : decode cX2_ring 118 = .ok (.iload_n 1, 1) := by decide +kernel
theorem dX2_ring_119 : decode cX2_ring 119 = .ok (.ishl, 1) := by decide +kernel
theorem dX2_ring_120 : decode cX2_ring 120 = .ok (.iconst (-1), 1) := by decide +kernel
theorem dX2_ring_121 : decode cX2_ring 121 = .ok (.ixor, 1) := by decide +kernel
theorem dX2_ring_122 : decode cX2_ring 122 = .ok (.iand, 1) := by decide +kernel
theorem dX2_ring_123 : decode cX2_ring 123 = .ok (.putfield 34, 3) := by decide +kernel
theorem dX2_ring_126 : decode cX2_ring 126 = .ok (.aload_n 0, 1) := by decide +kernel
theorem dX2_ring_127 : decode cX2_ring 127 = .ok (.iload_n 1, 1) := by decide +kernel
theorem dX2_ring_128 : decode cX2_ring 128 = .ok (.putfield 37, 3) := by decide +kernel
theorem dX2_ring_131 : decode cX2_ring 131 = .ok (.aload_n 0, 1) := by decide +kernel
theorem dX2_ring_132 : decode cX2_ring 132 = .ok (.dup, 1) := by decide +kernel
theorem dX2_ring_133 : decode cX2_ring 133 = .ok (.getfield 40, 3) := by decide +kernel
theorem dX2_ring_136 : decode cX2_ring 136 = .ok (.iconst 1, 1) := by decide +kernel
theorem dX2_ring_137 : decode cX2_ring 137 = .ok (.iadd, 1) := by decide +kernel
theorem dX2_ring_138 : decode cX2_ring 138 = .ok (.putfield 40, 3) := by decide +kernel
theorem dX2_ring_141 : decode cX2_ring 141 = .ok (.aload_n 0, 1) := by decide +kernel
theorem dX2_ring_142 : decode cX2_ring 142 = .ok (.getfield 25, 3) := by decide +kernel
theorem dX2_ring_145 : decode cX2_ring 145 = .ok (.iload_n 3, 1) := by decide +kernel
theorem dX2_ring_146 : decode cX2_ring 146 = .ok (.iconst (-1), 1) := by decide +kernel
theorem dX2_ring_147 : decode cX2_ring 147 = .ok (.ixor, 1) := by decide +kernel
theorem dX2_ring_148 : decode cX2_ring 148 = .ok (.iand, 1) := by decide +kernel
theorem dX2_ring_149 : decode cX2_ring 149 = .ok (.ireturn, 1) := by decide +kernel
theorem dX2_turn_0 : decode cX2_turn 0 = .ok (.aload_n 0, 1) := by decide +kernel
theorem dX2_turn_1 : decode cX2_turn 1 = .ok (.getfield 9, 3) := by decide +kernel
theorem dX2_turn_4 : decode cX2_turn 4 = .ok (.iload_n 1, 1) := by decide +kernel
theorem dX2_turn_5 : decode cX2_turn 5 = .ok (.dup2, 1) := by decide +kernel
theorem dX2_turn_6 : decode cX2_turn 6 = .ok (.iaload, 1) := by decide +kernel
theorem dX2_turn_7 : decode cX2_turn 7 = .ok (.iconst 1, 1) := by decide +kernel
theorem dX2_turn_8 : decode cX2_turn 8 = .ok (.iload_n 2, 1) := by decide +kernel
theorem dX2_turn_9 : decode cX2_turn 9 = .ok (.ishl, 1) := by decide +kernel
theorem dX2_turn_10 : decode cX2_turn 10 = .ok (.ixor, 1) := by decide +kernel
theorem dX2_turn_11 : decode cX2_turn 11 = .ok (.iastore, 1) := by decide +kernel
theorem dX2_turn_12 : decode cX2_turn 12 = .ok (.return_, 1) := by decide +kernel
theorem dX2_allMarks_0 : decode cX2_allMarks 0 = .ok (.iconst 0, 1) := by decide +kernel
theorem dX2_allMarks_1 : decode cX2_allMarks 1 = .ok (.istore_n 1, 1) := by decide +kernel
theorem dX2_allMarks_2 : decode cX2_allMarks 2 = .ok (.iconst 0, 1) := by decide +kernel
theorem dX2_allMarks_3 : decode cX2_allMarks 3 = .ok (.istore_n 2, 1) := by decide +kernel
theorem dX2_allMarks_4 : decode cX2_allMarks 4 = .ok (.iload_n 2, 1) := by decide +kernel
theorem dX2_allMarks_5 : decode cX2_allMarks 5 = .ok (.aload_n 0, 1) := by decide +kernel
theorem dX2_allMarks_6 : decode cX2_allMarks 6 = .ok (.getfield 15, 3) := by decide +kernel
theorem dX2_allMarks_9 : decode cX2_allMarks 9 = .ok (.getfield 29, 3) := by decide +kernel
theorem dX2_allMarks_12 : decode cX2_allMarks 12 = .ok (.if_icmp .ge 21, 3) := by decide +kernel
theorem dX2_allMarks_15 : decode cX2_allMarks 15 = .ok (.iload_n 1, 1) := by decide +kernel
theorem dX2_allMarks_16 : decode cX2_allMarks 16 = .ok (.aload_n 0, 1) := by decide +kernel
theorem dX2_allMarks_17 : decode cX2_allMarks 17 = .ok (.getfield 9, 3) := by decide +kernel
theorem dX2_allMarks_20 : decode cX2_allMarks 20 = .ok (.iload_n 2, 1) := by decide +kernel
theorem dX2_allMarks_21 : decode cX2_allMarks 21 = .ok (.iaload, 1) := by decide +kernel
theorem dX2_allMarks_22 : decode cX2_allMarks 22 = .ok (.invokestatic 60, 3) := by decide +kernel
theorem dX2_allMarks_25 : decode cX2_allMarks 25 = .ok (.iadd, 1) := by decide +kernel
theorem dX2_allMarks_26 : decode cX2_allMarks 26 = .ok (.istore_n 1, 1) := by decide +kernel
theorem dX2_allMarks_27 : decode cX2_allMarks 27 = .ok (.iinc 2 1, 3) := by decide +kernel
theorem dX2_allMarks_30 : decode cX2_allMarks 30 = .ok (.goto (-26), 3) := by decide +kernel
theorem dX2_allMarks_33 : decode cX2_allMarks 33 = .ok (.iload_n 1, 1) := by decide +kernel
theorem dX2_allMarks_34 : decode cX2_allMarks 34 = .ok (.ireturn, 1) := by decide +kernel
theorem dX2_worth_0 : decode cX2_worth 0 = .ok (.aload_n 0, 1) := by decide +kernel
theorem dX2_worth_1 : decode cX2_worth 1 = .ok (.getfield 9, 3) := by decide +kernel
theorem dX2_worth_4 : decode cX2_worth 4 = .ok (.iload_n 1, 1) := by decide +kernel
theorem dX2_worth_5 : decode cX2_worth 5 = .ok (.iaload, 1) := by decide +kernel
theorem dX2_worth_6 : decode cX2_worth 6 = .ok (.invokestatic 60, 3) := by decide +kernel
theorem dX2_worth_9 : decode cX2_worth 9 = .ok (.aload_n 0, 1) := by decide +kernel
theorem dX2_worth_10 : decode cX2_worth 10 = .ok (.iload_n 1, 1) := by decide +kernel
theorem dX2_worth_11 : decode cX2_worth 11 = .ok (.invokevirtual 65, 3) := by decide +kernel
theorem dX2_worth_14 : decode cX2_worth 14 = .ok (.ifCond .eq 8, 3) := by decide +kernel
theorem dX2_worth_17 : decode cX2_worth 17 = .ok (.bipush 10, 2) := by decide +kernel
theorem dX2_worth_19 : decode cX2_worth 19 = .ok (.goto 4, 3) := by decide +kernel
theorem dX2_worth_22 : decode cX2_worth 22 = .ok (.iconst 0, 1) := by decide +kernel
theorem dX2_worth_23 : decode cX2_worth 23 = .ok (.iadd, 1) := by decide +kernel
theorem dX2_worth_24 : decode cX2_worth 24 = .ok (.ireturn, 1) := by decide +kernel
theorem dX3_init_0 : decode cX3_init 0 = .ok (.aload_n 0, 1) := by decide +kernel
theorem dX3_init_1 : decode cX3_init 1 = .ok (.invokespecial 1, 3) := by decide +kernel
theorem dX3_init_4 : decode cX3_init 4 = .ok (.return_, 1) := by decide +kernel
theorem dX3_lacks_0 : decode cX3_lacks 0 = .ok (.iconst 0, 1) := by decide +kernel
theorem dX3_lacks_1 : decode cX3_lacks 1 = .ok (.iconst 2, 1) := by decide +kernel
theorem dX3_lacks_2 : decode cX3_lacks 2 = .ok (.aload_n 0, 1) := by decide +kernel
theorem dX3_lacks_3 : decode cX3_lacks 3 = .ok (.iload_n 1, 1) := by decide +kernel
theorem dX3_lacks_4 : decode cX3_lacks 4 = .ok (.invokevirtual 7, 3) := by decide +kernel
theorem dX3_lacks_7 : decode cX3_lacks 7 = .ok (.isub, 1) := by decide +kernel
theorem dX3_lacks_8 : decode cX3_lacks 8 = .ok (.invokestatic 13, 3) := by decide +kernel
theorem dX3_lacks_11 : decode cX3_lacks 11 = .ok (.iconst 0, 1) := by decide +kernel
theorem dX3_lacks_12 : decode cX3_lacks 12 = .ok (.iconst 2, 1) := by decide +kernel
theorem dX3_lacks_13 : decode cX3_lacks 13 = .ok (.aload_n 0, 1) := by decide +kernel
theorem dX3_lacks_14 : decode cX3_lacks 14 = .ok (.iload_n 1, 1) := by decide +kernel
theorem dX3_lacks_15 : decode cX3_lacks 15 = .ok (.invokevirtual 19, 3) := by decide +kernel
theorem dX3_lacks_18 : decode cX3_lacks 18 = .ok (.isub, 1) := by decide +kernel
theorem dX3_lacks_19 : decode cX3_lacks 19 = .ok (.invokestatic 13, 3) := by decide +kernel
theorem dX3_lacks_22 : decode cX3_lacks 22 = .ok (.iadd, 1) := by decide +kernel
theorem dX3_lacks_23 : decode cX3_lacks 23 = .ok (.istore_n 2, 1) := by decide +kernel
theorem dX3_lacks_24 : decode cX3_lacks 24 = .ok (.iload_n 2, 1) := by decide +kernel
theorem dX3_lacks_25 : decode cX3_lacks 25 = .ok (.aload_n 0, 1) := by decide +kernel
theorem dX3_lacks_26 : decode cX3_lacks 26 = .ok (.iload_n 1, 1) := by decide +kernel
theorem dX3_lacks_27 : decode cX3_lacks 27 = .ok (.invokespecial 22, 3) := by decide +kernel
theorem dX3_lacks_30 : decode cX3_lacks 30 = .ok (.invokestatic 25, 3) := by decide +kernel
theorem dX3_lacks_33 : decode cX3_lacks 33 = .ok (.ireturn, 1) := by decide +kernel
theorem dX3_linesOfTwo_0 : decode cX3_linesOfTwo 0 = .ok (.aload_n 0, 1) := by decide +kernel
theorem dX3_linesOfTwo_1 : decode cX3_linesOfTwo 1 = .ok (.iload_n 1, 1) := by decide +kernel
theorem dX3_linesOfTwo_2 : decode cX3_linesOfTwo 2 = .ok (.invokevirtual 7, 3) := by decide +kernel
theorem dX3_linesOfTwo_5 : decode cX3_linesOfTwo 5 = .ok (.iconst 2, 1) := by decide +kernel
theorem dX3_linesOfTwo_6 : decode cX3_linesOfTwo 6 = .ok (.if_icmp .lt 7, 3) := by decide +kernel
theorem dX3_linesOfTwo_9 : decode cX3_linesOfTwo 9 = .ok (.iconst 1, 1) := by decide +kernel
theorem dX3_linesOfTwo_10 : decode cX3_linesOfTwo 10 = .ok (.goto 4, 3) := by decide +kernel
theorem dX3_linesOfTwo_13 : decode cX3_linesOfTwo 13 = .ok (.iconst 0, 1) := by decide +kernel
theorem dX3_linesOfTwo_14 : decode cX3_linesOfTwo 14 = .ok (.aload_n 0, 1) := by decide +kernel
theorem dX3_linesOfTwo_15 : decode cX3_linesOfTwo 15 = .ok (.iload_n 1, 1) := by decide +kernel
theorem dX3_linesOfTwo_16 : decode cX3_linesOfTwo 16 = .ok (.invokevirtual 19, 3) := by decide +kernel
theorem dX3_linesOfTwo_19 : decode cX3_linesOfTwo 19 = .ok (.iconst 2, 1) := by decide +kernel
theorem dX3_linesOfTwo_20 : decode cX3_linesOfTwo 20 = .ok (.if_icmp .lt 7, 3) := by decide +kernel
theorem dX3_linesOfTwo_23 : decode cX3_linesOfTwo 23 = .ok (.iconst 1, 1) := by decide +kernel
theorem dX3_linesOfTwo_24 : decode cX3_linesOfTwo 24 = .ok (.goto 4, 3) := by decide +kernel
theorem dX3_linesOfTwo_27 : decode cX3_linesOfTwo 27 = .ok (.iconst 0, 1) := by decide +kernel
theorem dX3_linesOfTwo_28 : decode cX3_linesOfTwo 28 = .ok (.iadd, 1) := by decide +kernel
theorem dX3_linesOfTwo_29 : decode cX3_linesOfTwo 29 = .ok (.ireturn, 1) := by decide +kernel
theorem dX4_init_0 : decode cX4_init 0 = .ok (.aload_n 0, 1) := by decide +kernel
theorem dX4_init_1 : decode cX4_init 1 = .ok (.invokespecial 1, 3) := by decide +kernel
theorem dX4_init_4 : decode cX4_init 4 = .ok (.return_, 1) := by decide +kernel
theorem dX4_heard_0 : decode cX4_heard 0 = .ok (.iload_n 2, 1) := by decide +kernel
theorem dX4_heard_1 : decode cX4_heard 1 = .ok (.ifCond .ne 7, 3) := by decide +kernel
theorem dX4_heard_4 : decode cX4_heard 4 = .ok (.iconst 0, 1) := by decide +kernel
theorem dX4_heard_5 : decode cX4_heard 5 = .ok (.goto 6, 3) := by decide +kernel
theorem dX4_heard_8 : decode cX4_heard 8 = .ok (.iconst 1, 1) := by decide +kernel
theorem dX4_heard_9 : decode cX4_heard 9 = .ok (.iload_n 2, 1) := by decide +kernel
theorem dX4_heard_10 : decode cX4_heard 10 = .ok (.ishl, 1) := by decide +kernel
theorem dX4_heard_11 : decode cX4_heard 11 = .ok (.ireturn, 1) := by decide +kernel
theorem dX5_init_0 : decode cX5_init 0 = .ok (.aload_n 0, 1) := by decide +kernel
theorem dX5_init_1 : decode cX5_init 1 = .ok (.invokespecial 3, 3) := by decide +kernel
theorem dX5_init_4 : decode cX5_init 4 = .ok (.return_, 1) := by decide +kernel
theorem dX5_heard_0 : decode cX5_heard 0 = .ok (.iconst 1, 1) := by decide +kernel
theorem dX5_heard_1 : decode cX5_heard 1 = .ok (.iload_n 1, 1) := by decide +kernel
theorem dX5_heard_2 : decode cX5_heard 2 = .ok (.ishl, 1) := by decide +kernel
theorem dX5_heard_3 : decode cX5_heard 3 = .ok (.ireturn, 1) := by decide +kernel
theorem dX5_lacks_0 : decode cX5_lacks 0 = .ok (.iconst 3, 1) := by decide +kernel
theorem dX5_lacks_1 : decode cX5_lacks 1 = .ok (.aload_n 0, 1) := by decide +kernel
theorem dX5_lacks_2 : decode cX5_lacks 2 = .ok (.iload_n 1, 1) := by decide +kernel
theorem dX5_lacks_3 : decode cX5_lacks 3 = .ok (.invokevirtual 9, 3) := by decide +kernel
theorem dX5_lacks_6 : decode cX5_lacks 6 = .ok (.isub, 1) := by decide +kernel
theorem dX5_lacks_7 : decode cX5_lacks 7 = .ok (.iconst 3, 1) := by decide +kernel
theorem dX5_lacks_8 : decode cX5_lacks 8 = .ok (.aload_n 0, 1) := by decide +kernel
theorem dX5_lacks_9 : decode cX5_lacks 9 = .ok (.iload_n 1, 1) := by decide +kernel
theorem dX5_lacks_10 : decode cX5_lacks 10 = .ok (.invokevirtual 15, 3) := by decide +kernel
theorem dX5_lacks_13 : decode cX5_lacks 13 = .ok (.isub, 1) := by decide +kernel
theorem dX5_lacks_14 : decode cX5_lacks 14 = .ok (.invokestatic 18, 3) := by decide +kernel
theorem dX5_lacks_17 : decode cX5_lacks 17 = .ok (.ireturn, 1) := by decide +kernel
theorem dX5_inUpper_0 : decode cX5_inUpper 0 = .ok (.iload_n 1, 1) := by decide +kernel
theorem dX5_inUpper_1 : decode cX5_inUpper 1 = .ok (.bipush 7, 2) := by decide +kernel
theorem dX5_inUpper_3 : decode cX5_inUpper 3 = .ok (.iand, 1) := by decide +kernel
theorem dX5_inUpper_4 : decode cX5_inUpper 4 = .ok (.invokestatic 24, 3) := by decide +kernel
theorem dX5_inUpper_7 : decode cX5_inUpper 7 = .ok (.ireturn, 1) := by decide +kernel
theorem dX5_inLower_0 : decode cX5_inLower 0 = .ok (.iload_n 1, 1) := by decide +kernel
theorem dX5_inLower_1 : decode cX5_inLower 1 = .ok (.bipush 56, 2) := by decide +kernel
theorem dX5_inLower_3 : decode cX5_inLower 3 = .ok (.iand, 1) := by decide +kernel
theorem dX5_inLower_4 : decode cX5_inLower 4 = .ok (.invokestatic 24, 3) := by decide +kernel
theorem dX5_inLower_7 : decode cX5_inLower 7 = .ok (.ireturn, 1) := by decide +kernel
theorem dX6_init_0 : decode cX6_init 0 = .ok (.aload_n 0, 1) := by decide +kernel
theorem dX6_init_1 : decode cX6_init 1 = .ok (.invokespecial 3, 3) := by decide +kernel
theorem dX6_init_4 : decode cX6_init 4 = .ok (.aload_n 0, 1) := by decide +kernel
theorem dX6_init_5 : decode cX6_init 5 = .ok (.iconst 4, 1) := by decide +kernel
theorem dX6_init_6 : decode cX6_init 6 = .ok (.newarray .int, 2) := by decide +kernel
theorem dX6_init_8 : decode cX6_init 8 = .ok (.putfield 9, 3) := by decide +kernel
theorem dX6_init_11 : decode cX6_init 11 = .ok (.aload_n 0, 1) := by decide +kernel
theorem dX6_init_12 : decode cX6_init 12 = .ok (.iconst 4, 1) := by decide +kernel
theorem dX6_init_13 : decode cX6_init 13 = .ok (.bipush 6, 2) := by decide +kernel
theorem dX6_init_15 : decode cX6_init 15 = .ok (.multianewarray 15 2, 4) := by decide +kernel
theorem dX6_init_19 : decode cX6_init 19 = .ok (.putfield 17, 3) := by decide +kernel
theorem dX6_init_22 : decode cX6_init 22 = .ok (.return_, 1) := by decide +kernel
theorem dX6_read_0 : decode cX6_read 0 = .ok (.aload_n 0, 1) := by decide +kernel
theorem dX6_read_1 : decode cX6_read 1 = .ok (.iconst 0, 1) := by decide +kernel
theorem dX6_read_2 : decode cX6_read 2 = .ok (.putfield 20, 3) := by decide +kernel
theorem dX6_read_5 : decode cX6_read 5 = .ok (.iconst 0, 1) := by decide +kernel
theorem dX6_read_6 : decode cX6_read 6 = .ok (.istore_n 3, 1) := by decide +kernel
theorem dX6_read_7 : decode cX6_read 7 = .ok (.iload_n 3, 1) := by decide +kernel
theorem dX6_read_8 : decode cX6_read 8 = .ok (.iload_n 2, 1) := by decide +kernel
theorem dX6_read_9 : decode cX6_read 9 = .ok (.if_icmp .ge 88, 3) := by decide +kernel
theorem dX6_read_12 : decode cX6_read 12 = .ok (.aload_n 1, 1) := by decide +kernel
theorem dX6_read_13 : decode cX6_read 13 = .ok (.iload_n 3, 1) := by decide +kernel
theorem dX6_read_14 : decode cX6_read 14 = .ok (.baload, 1) := by decide +kernel
theorem dX6_read_15 : decode cX6_read 15 = .ok (.bipush 32, 2) := by decide +kernel
theorem dX6_read_17 : decode cX6_read 17 = .ok (.if_icmp .ne 9, 3) := by decide +kernel
theorem dX6_read_20 : decode cX6_read 20 = .ok (.iinc 3 1, 3) := by decide +kernel
theorem dX6_read_23 : decode cX6_read 23 = .ok (.goto (-16), 3) := by decide +kernel
theorem dX6_read_26 : decode cX6_read 26 = .ok (.aload_n 1, 1) := by decide +kernel
theorem dX6_read_27 : decode cX6_read 27 = .ok (.iload_n 3, 1) := by decide +kernel
theorem dX6_read_28 : decode cX6_read 28 = .ok (.baload, 1) := by decide +kernel
theorem dX6_read_29 : decode cX6_read 29 = .ok (.invokestatic 24, 3) := by decide +kernel
theorem dX6_read_32 : decode cX6_read 32 = .ok (.istore 4, 2) := by decide +kernel
theorem dX6_read_34 : decode cX6_read 34 = .ok (.iload 4, 2) := by decide +kernel
theorem dX6_read_36 : decode cX6_read 36 = .ok (.ifCond .lt 11, 3) := by decide +kernel
theorem dX6_read_39 : decode cX6_read 39 = .ok (.aload_n 0, 1) := by decide +kernel
theorem dX6_read_40 : decode cX6_read 40 = .ok (.getfield 20, 3) := by decide +kernel
theorem dX6_read_43 : decode cX6_read 43 = .ok (.iconst 4, 1) := by decide +kernel
theorem dX6_read_44 : decode cX6_read 44 = .ok (.if_icmp .lt 5, 3) := by decide +kernel
theorem dX6_read_47 : decode cX6_read 47 = .ok (.iload_n 3, 1) := by decide +kernel
theorem dX6_read_48 : decode cX6_read 48 = .ok (.ireturn, 1) := by decide +kernel
theorem dX6_read_49 : decode cX6_read 49 = .ok (.aload_n 0, 1) := by decide +kernel
theorem dX6_read_50 : decode cX6_read 50 = .ok (.aload_n 1, 1) := by decide +kernel
theorem dX6_read_51 : decode cX6_read 51 = .ok (.iload_n 2, 1) := by decide +kernel
theorem dX6_read_52 : decode cX6_read 52 = .ok (.iload_n 3, 1) := by decide +kernel
theorem dX6_read_53 : decode cX6_read 53 = .ok (.iconst 1, 1) := by decide +kernel
theorem dX6_read_54 : decode cX6_read 54 = .ok (.iadd, 1) := by decide +kernel
theorem dX6_read_55 : decode cX6_read 55 = .ok (.invokevirtual 28, 3) := by decide +kernel
theorem dX6_read_58 : decode cX6_read 58 = .ok (.istore 5, 2) := by decide +kernel
theorem dX6_read_60 : decode cX6_read 60 = .ok (.iload 5, 2) := by decide +kernel
theorem dX6_read_62 : decode cX6_read 62 = .ok (.bipush (-9), 2) := by decide +kernel
theorem dX6_read_64 : decode cX6_read 64 = .ok (.if_icmp .eq 6, 3) := by decide +kernel
theorem dX6_read_67 : decode cX6_read 67 = .ok (.iload 5, 2) := by decide +kernel
theorem dX6_read_69 : decode cX6_read 69 = .ok (.ireturn, 1) := by decide +kernel
theorem dX6_read_70 : decode cX6_read 70 = .ok (.aload_n 0, 1) := by decide +kernel
theorem dX6_read_71 : decode cX6_read 71 = .ok (.getfield 9, 3) := by decide +kernel
theorem dX6_read_74 : decode cX6_read 74 = .ok (.aload_n 0, 1) := by decide +kernel
theorem dX6_read_75 : decode cX6_read 75 = .ok (.getfield 20, 3) := by decide +kernel
theorem dX6_read_78 : decode cX6_read 78 = .ok (.iload 4, 2) := by decide +kernel
theorem dX6_read_80 : decode cX6_read 80 = .ok (.iastore, 1) := by decide +kernel
theorem dX6_read_81 : decode cX6_read 81 = .ok (.aload_n 0, 1) := by decide +kernel
theorem dX6_read_82 : decode cX6_read 82 = .ok (.dup, 1) := by decide +kernel
theorem dX6_read_83 : decode cX6_read 83 = .ok (.getfield 20, 3) := by decide +kernel
theorem dX6_read_86 : decode cX6_read 86 = .ok (.iconst 1, 1) := by decide +kernel
theorem dX6_read_87 : decode cX6_read 87 = .ok (.iadd, 1) := by decide +kernel
theorem dX6_read_88 : decode cX6_read 88 = .ok (.putfield 20, 3) := by decide +kernel
theorem dX6_read_91 : decode cX6_read 91 = .ok (.iinc 3 13, 3) := by decide +kernel
theorem dX6_read_94 : decode cX6_read 94 = .ok (.goto (-87), 3) := by decide +kernel
theorem dX6_read_97 : decode cX6_read 97 = .ok (.aload_n 0, 1) := by decide +kernel
theorem dX6_read_98 : decode cX6_read 98 = .ok (.getfield 20, 3) := by decide +kernel
theorem dX6_read_101 : decode cX6_read 101 = .ok (.ifCond .ne 7, 3) := by decide +kernel
theorem dX6_read_104 : decode cX6_read 104 = .ok (.iload_n 2, 1) := by decide +kernel
theorem dX6_read_105 : decode cX6_read 105 = .ok (.goto 5, 3) := by decide +kernel
theorem dX6_read_108 : decode cX6_read 108 = .ok (.bipush (-9), 2) := by decide +kernel
theorem dX6_read_110 : decode cX6_read 110 = .ok (.ireturn, 1) := by decide +kernel
theorem dX6_kindBy_0 : decode cX6_kindBy 0 = .ok (.iconst 0, 1) := by decide +kernel
theorem dX6_kindBy_1 : decode cX6_kindBy 1 = .ok (.istore_n 1, 1) := by decide +kernel
theorem dX6_kindBy_2 : decode cX6_kindBy 2 = .ok (.iload_n 1, 1) := by decide +kernel
theorem dX6_kindBy_3 : decode cX6_kindBy 3 = .ok (.bipush 6, 2) := by decide +kernel
theorem dX6_kindBy_5 : decode cX6_kindBy 5 = .ok (.if_icmp .ge 20, 3) := by decide +kernel
theorem dX6_kindBy_8 : decode cX6_kindBy 8 = .ok (.getstatic 32, 3) := by decide +kernel
theorem dX6_kindBy_11 : decode cX6_kindBy 11 = .ok (.iload_n 1, 1) := by decide +kernel
theorem dX6_kindBy_12 : decode cX6_kindBy 12 = .ok (.iaload, 1) := by decide +kernel
theorem dX6_kindBy_13 : decode cX6_kindBy 13 = .ok (.iload_n 0, 1) := by decide +kernel
theorem dX6_kindBy_14 : decode cX6_kindBy 14 = .ok (.if_icmp .ne 5, 3) := by decide +kernel
theorem dX6_kindBy_17 : decode cX6_kindBy 17 = .ok (.iload_n 1, 1) := by decide +kernel
theorem dX6_kindBy_18 : decode cX6_kindBy 18 = .ok (.ireturn, 1) := by decide +kernel
theorem dX6_kindBy_19 : decode cX6_kindBy 19 = .ok (.iinc 1 1, 3) := by decide +kernel
theorem dX6_kindBy_22 : decode cX6_kindBy 22 = .ok (.goto (-20), 3) := by decide +kernel
theorem dX6_kindBy_25 : decode cX6_kindBy 25 = .ok (.iconst (-1), 1) := by decide +kernel
theorem dX6_kindBy_26 : decode cX6_kindBy 26 = .ok (.ireturn, 1) := by decide +kernel
theorem dX6_readCard_0 : decode cX6_readCard 0 = .ok (.iconst 0, 1) := by decide +kernel
theorem dX6_readCard_1 : decode cX6_readCard 1 = .ok (.istore 4, 2) := by decide +kernel
theorem dX6_readCard_3 : decode cX6_readCard 3 = .ok (.iconst 0, 1) := by decide +kernel
theorem dX6_readCard_4 : decode cX6_readCard 4 = .ok (.istore 5, 2) := by decide +kernel
theorem dX6_readCard_6 : decode cX6_readCard 6 = .ok (.iload 5, 2) := by decide +kernel
theorem dX6_readCard_8 : decode cX6_readCard 8 = .ok (.bipush 6, 2) := by decide +kernel
theorem dX6_readCard_10 : decode cX6_readCard 10 = .ok (.if_icmp .ge 137, 3) := by decide +kernel
theorem dX6_readCard_13 : decode cX6_readCard 13 = .ok (.iload_n 3, 1) := by decide +kernel
theorem dX6_readCard_14 : decode cX6_readCard 14 = .ok (.iconst 2, 1) := by decide +kernel
theorem dX6_readCard_15 : decode cX6_readCard 15 = .ok (.iload 5, 2) := by decide +kernel
theorem dX6_readCard_17 : decode cX6_readCard 17 = .ok (.imul, 1) := by decide +kernel
theorem dX6_readCard_18 : decode cX6_readCard 18 = .ok (.iadd, 1) := by decide +kernel
theorem dX6_readCard_19 : decode cX6_readCard 19 = .ok (.istore 6, 2) := by decide +kernel
theorem dX6_readCard_21 : decode cX6_readCard 21 = .ok (.iload 6, 2) := by decide +kernel
theorem dX6_readCard_23 : decode cX6_readCard 23 = .ok (.istore 7, 2) := by decide +kernel
theorem dX6_readCard_25 : decode cX6_readCard 25 = .ok (.iload 7, 2) := by decide +kernel
theorem dX6_readCard_27 : decode cX6_readCard 27 = .ok (.iload 6, 2) := by decide +kernel
theorem dX6_readCard_29 : decode cX6_readCard 29 = .ok (.iconst 1, 1) := by decide +kernel
theorem dX6_readCard_30 : decode cX6_readCard 30 = .ok (.iadd, 1) := by decide +kernel
theorem dX6_readCard_31 : decode cX6_readCard 31 = .ok (.if_icmp .gt 38, 3) := by decide +kernel
theorem dX6_readCard_34 : decode cX6_readCard 34 = .ok (.iload 7, 2) := by decide +kernel
theorem dX6_readCard_36 : decode cX6_readCard 36 = .ok (.iload_n 2, 1) := by decide +kernel
theorem dX6_readCard_37 : decode cX6_readCard 37 = .ok (.if_icmp .lt 5, 3) := by decide +kernel
theorem dX6_readCard_40 : decode cX6_readCard 40 = .ok (.iload_n 2, 1) := by decide +kernel
theorem dX6_readCard_41 : decode cX6_readCard 41 = .ok (.ireturn, 1) := by decide +kernel
theorem dX6_readCard_42 : decode cX6_readCard 42 = .ok (.aload_n 1, 1) := by decide +kernel
theorem dX6_readCard_43 : decode cX6_readCard 43 = .ok (.iload 7, 2) := by decide +kernel
theorem dX6_readCard_45 : decode cX6_readCard 45 = .ok (.baload, 1) := by decide +kernel
theorem dX6_readCard_46 : decode cX6_readCard 46 = .ok (.bipush 48, 2) := by decide +kernel
theorem dX6_readCard_48 : decode cX6_readCard 48 = .ok (.if_icmp .lt 12, 3) := by decide +kernel
theorem dX6_readCard_51 : decode cX6_readCard 51 = .ok (.aload_n 1, 1) := by decide +kernel
theorem dX6_readCard_52 : decode cX6_readCard 52 = .ok (.iload 7, 2) := by decide +kernel
theorem dX6_readCard_54 : decode cX6_readCard 54 = .ok (.baload, 1) := by decide +kernel
theorem dX6_readCard_55 : decode cX6_readCard 55 = .ok (.bipush 57, 2) := by decide +kernel
theorem dX6_readCard_57 : decode cX6_readCard 57 = .ok (.if_icmp .le 6, 3) := by decide +kernel
theorem dX6_readCard_60 : decode cX6_readCard 60 = .ok (.iload 7, 2) := by decide +kernel
theorem dX6_readCard_62 : decode cX6_readCard 62 = .ok (.ireturn, 1) := by decide +kernel
theorem dX6_readCard_63 : decode cX6_readCard 63 = .ok (.iinc 7 1, 3) := by decide +kernel
theorem dX6_readCard_66 : decode cX6_readCard 66 = .ok (.goto (-41), 3) := by decide +kernel
theorem dX6_readCard_69 : decode cX6_readCard 69 = .ok (.aload_n 1, 1) := by decide +kernel
theorem dX6_readCard_70 : decode cX6_readCard 70 = .ok (.iload 6, 2) := by decide +kernel
theorem dX6_readCard_72 : decode cX6_readCard 72 = .ok (.baload, 1) := by decide +kernel
theorem dX6_readCard_73 : decode cX6_readCard 73 = .ok (.bipush 48, 2) := by decide +kernel
theorem dX6_readCard_75 : decode cX6_readCard 75 = .ok (.isub, 1) := by decide +kernel
theorem dX6_readCard_76 : decode cX6_readCard 76 = .ok (.bipush 10, 2) := by decide +kernel
theorem dX6_readCard_78 : decode cX6_readCard 78 = .ok (.imul, 1) := by decide +kernel
theorem dX6_readCard_79 : decode cX6_readCard 79 = .ok (.aload_n 1, 1) := by decide +kernel
theorem dX6_readCard_80 : decode cX6_readCard 80 = .ok (.iload 6, 2) := by decide +kernel
theorem dX6_readCard_82 : decode cX6_readCard 82 = .ok (.iconst 1, 1) := by decide +kernel
theorem dX6_readCard_83 : decode cX6_readCard 83 = .ok (.iadd, 1) := by decide +kernel
theorem dX6_readCard_84 : decode cX6_readCard 84 = .ok (.baload, 1) := by decide +kernel
theorem dX6_readCard_85 : decode cX6_readCard 85 = .ok (.iadd, 1) := by decide +kernel
theorem dX6_readCard_86 : decode cX6_readCard 86 = .ok (.bipush 48, 2) := by decide +kernel
theorem dX6_readCard_88 : decode cX6_readCard 88 = .ok (.isub, 1) := by decide +kernel
theorem dX6_readCard_89 : decode cX6_readCard 89 = .ok (.istore 7, 2) := by decide +kernel
theorem dX6_readCard_91 : decode cX6_readCard 91 = .ok (.iload 7, 2) := by decide +kernel
theorem dX6_readCard_93 : decode cX6_readCard 93 = .ok (.iconst 1, 1) := by decide +kernel
theorem dX6_readCard_94 : decode cX6_readCard 94 = .ok (.if_icmp .lt 21, 3) := by decide +kernel
theorem dX6_readCard_97 : decode cX6_readCard 97 = .ok (.iload 7, 2) := by decide +kernel
theorem dX6_readCard_99 : decode cX6_readCard 99 = .ok (.bipush 12, 2) := by decide +kernel
theorem dX6_readCard_101 : decode cX6_readCard 101 = .ok (.if_icmp .gt 14, 3) := by decide +kernel
theorem dX6_readCard_104 : decode cX6_readCard 104 = .ok (.iload 4, 2) := by decide +kernel
theorem dX6_readCard_106 : decode cX6_readCard 106 = .ok (.iload 7, 2) := by decide +kernel
theorem dX6_readCard_108 : decode cX6_readCard 108 = .ok (.ishr, 1) := by decide +kernel
theorem dX6_readCard_109 : decode cX6_readCard 109 = .ok (.iconst 1, 1) := by decide +kernel
theorem dX6_readCard_110 : decode cX6_readCard 110 = .ok (.iand, 1) := by decide +kernel
theorem dX6_readCard_111 : decode cX6_readCard 111 = .ok (.iconst 1, 1) := by decide +kernel
theorem dX6_readCard_112 : decode cX6_readCard 112 = .ok (.if_icmp .ne 6, 3) := by decide +kernel
theorem dX6_readCard_115 : decode cX6_readCard 115 = .ok (.iload 6, 2) := by decide +kernel
theorem dX6_readCard_117 : decode cX6_readCard 117 = .ok (.ireturn, 1) := by decide +kernel
theorem dX6_readCard_118 : decode cX6_readCard 118 = .ok (.iload 4, 2) := by decide +kernel
theorem dX6_readCard_120 : decode cX6_readCard 120 = .ok (.iconst 1, 1) := by decide +kernel
theorem dX6_readCard_121 : decode cX6_readCard 121 = .ok (.iload 7, 2) := by decide +kernel
theorem dX6_readCard_123 : decode cX6_readCard 123 = .ok (.ishl, 1) := by decide +kernel
theorem dX6_readCard_124 : decode cX6_readCard 124 = .ok (.ior, 1) := by decide +kernel
theorem dX6_readCard_125 : decode cX6_readCard 125 = .ok (.istore 4, 2) := by decide +kernel
theorem dX6_readCard_127 : decode cX6_readCard 127 = .ok (.aload_n 0, 1) := by decide +kernel
theorem dX6_readCard_128 : decode cX6_readCard 128 = .ok (.getfield 17, 3) := by decide +kernel
theorem dX6_readCard_131 : decode cX6_readCard 131 = .ok (.aload_n 0, 1) := by decide +kernel
theorem dX6_readCard_132 : decode cX6_readCard 132 = .ok (.getfield 20, 3) := by decide +kernel
theorem dX6_readCard_135 : decode cX6_readCard 135 = .ok (.aaload, 1) := by decide +kernel
theorem dX6_readCard_136 : decode cX6_readCard 136 = .ok (.iload 5, 2) := by decide +kernel
theorem dX6_readCard_138 : decode cX6_readCard 138 = .ok (.iload 7, 2) := by decide +kernel
theorem dX6_readCard_140 : decode cX6_readCard 140 = .ok (.iastore, 1) := by decide +kernel
theorem dX6_readCard_141 : decode cX6_readCard 141 = .ok (.iinc 5 1, 3) := by decide +kernel
theorem dX6_readCard_144 : decode cX6_readCard 144 = .ok (.goto (-138), 3) := by decide +kernel
theorem dX6_readCard_147 : decode cX6_readCard 147 = .ok (.bipush (-9), 2) := by decide +kernel
theorem dX6_readCard_149 : decode cX6_readCard 149 = .ok (.ireturn, 1) := by decide +kernel
theorem dX7_init_0 : decode cX7_init 0 = .ok (.aload_n 0, 1) := by decide +kernel
theorem dX7_init_1 : decode cX7_init 1 = .ok (.invokespecial 3, 3) := by decide +kernel
theorem dX7_init_4 : decode cX7_init 4 = .ok (.aload_n 0, 1) := by decide +kernel
theorem dX7_init_5 : decode cX7_init 5 = .ok (.bipush 6, 2) := by decide +kernel
theorem dX7_init_7 : decode cX7_init 7 = .ok (.anewarray 9, 3) := by decide +kernel
theorem dX7_init_10 : decode cX7_init 10 = .ok (.dup, 1) := by decide +kernel
theorem dX7_init_11 : decode cX7_init 11 = .ok (.iconst 0, 1) := by decide +kernel
theorem dX7_init_12 : decode cX7_init 12 = .ok (.new 9, 3) := by decide +kernel
theorem dX7_init_15 : decode cX7_init 15 = .ok (.dup, 1) := by decide +kernel
theorem dX7_init_16 : decode cX7_init 16 = .ok (.invokespecial 11, 3) := by decide +kernel
theorem dX7_init_19 : decode cX7_init 19 = .ok (.aastore, 1) := by decide +kernel
theorem dX7_init_20 : decode cX7_init 20 = .ok (.dup, 1) := by decide +kernel
theorem dX7_init_21 : decode cX7_init 21 = .ok (.iconst 1, 1) := by decide +kernel
theorem dX7_init_22 : decode cX7_init 22 = .ok (.new 12, 3) := by decide +kernel
theorem dX7_init_25 : decode cX7_init 25 = .ok (.dup, 1) := by decide +kernel
theorem dX7_init_26 : decode cX7_init 26 = .ok (.invokespecial 14, 3) := by decide +kernel
theorem dX7_init_29 : decode cX7_init 29 = .ok (.aastore, 1) := by decide +kernel
theorem dX7_init_30 : decode cX7_init 30 = .ok (.dup, 1) := by decide +kernel
theorem dX7_init_31 : decode cX7_init 31 = .ok (.iconst 2, 1) := by decide +kernel
theorem dX7_init_32 : decode cX7_init 32 = .ok (.new 15, 3) := by decide +kernel
theorem dX7_init_35 : decode cX7_init 35 = .ok (.dup, 1) := by decide +kernel
theorem dX7_init_36 : decode cX7_init 36 = .ok (.invokespecial 17, 3) := by decide +kernel
theorem dX7_init_39 : decode cX7_init 39 = .ok (.aastore, 1) := by decide +kernel
theorem dX7_init_40 : decode cX7_init 40 = .ok (.dup, 1) := by decide +kernel
theorem dX7_init_41 : decode cX7_init 41 = .ok (.iconst 3, 1) := by decide +kernel
theorem dX7_init_42 : decode cX7_init 42 = .ok (.new 18, 3) := by decide +kernel
theorem dX7_init_45 : decode cX7_init 45 = .ok (.dup, 1) := by decide +kernel
theorem dX7_init_46 : decode cX7_init 46 = .ok (.invokespecial 20, 3) := by decide +kernel
theorem dX7_init_49 : decode cX7_init 49 = .ok (.aastore, 1) := by decide +kernel
theorem dX7_init_50 : decode cX7_init 50 = .ok (.dup, 1) := by decide +kernel
theorem dX7_init_51 : decode cX7_init 51 = .ok (.iconst 4, 1) := by decide +kernel
theorem dX7_init_52 : decode cX7_init 52 = .ok (.new 21, 3) := by decide +kernel
theorem dX7_init_55 : decode cX7_init 55 = .ok (.dup, 1) := by decide +kernel
theorem dX7_init_56 : decode cX7_init 56 = .ok (.invokespecial 23, 3) := by decide +kernel
theorem dX7_init_59 : decode cX7_init 59 = .ok (.aastore, 1) := by decide +kernel
theorem dX7_init_60 : decode cX7_init 60 = .ok (.dup, 1) := by decide +kernel
theorem dX7_init_61 : decode cX7_init 61 = .ok (.iconst 5, 1) := by decide +kernel
theorem dX7_init_62 : decode cX7_init 62 = .ok (.new 24, 3) := by decide +kernel
theorem dX7_init_65 : decode cX7_init 65 = .ok (.dup, 1) := by decide +kernel
theorem dX7_init_66 : decode cX7_init 66 = .ok (.invokespecial 26, 3) := by decide +kernel
theorem dX7_init_69 : decode cX7_init 69 = .ok (.aastore, 1) := by decide +kernel
theorem dX7_init_70 : decode cX7_init 70 = .ok (.putfield 27, 3) := by decide +kernel
theorem dX7_init_73 : decode cX7_init 73 = .ok (.aload_n 0, 1) := by decide +kernel
theorem dX7_init_74 : decode cX7_init 74 = .ok (.iconst 4, 1) := by decide +kernel
theorem dX7_init_75 : decode cX7_init 75 = .ok (.newarray .int, 2) := by decide +kernel
theorem dX7_init_77 : decode cX7_init 77 = .ok (.putfield 33, 3) := by decide +kernel
theorem dX7_init_80 : decode cX7_init 80 = .ok (.aload_n 0, 1) := by decide +kernel
theorem dX7_init_81 : decode cX7_init 81 = .ok (.iconst 4, 1) := by decide +kernel
theorem dX7_init_82 : decode cX7_init 82 = .ok (.bipush 6, 2) := by decide +kernel
theorem dX7_init_84 : decode cX7_init 84 = .ok (.multianewarray 37 2, 4) := by decide +kernel
theorem dX7_init_88 : decode cX7_init 88 = .ok (.putfield 39, 3) := by decide +kernel
theorem dX7_init_91 : decode cX7_init 91 = .ok (.aload_n 0, 1) := by decide +kernel
theorem dX7_init_92 : decode cX7_init 92 = .ok (.iconst 4, 1) := by decide +kernel
theorem dX7_init_93 : decode cX7_init 93 = .ok (.newarray .int, 2) := by decide +kernel
theorem dX7_init_95 : decode cX7_init 95 = .ok (.putfield 42, 3) := by decide +kernel
theorem dX7_init_98 : decode cX7_init 98 = .ok (.return_, 1) := by decide +kernel
theorem dX7_fillBy_0 : decode cX7_fillBy 0 = .ok (.aload_n 0, 1) := by decide +kernel
theorem dX7_fillBy_1 : decode cX7_fillBy 1 = .ok (.aload_n 1, 1) := by decide +kernel
theorem dX7_fillBy_2 : decode cX7_fillBy 2 = .ok (.getfield 45, 3) := by decide +kernel
theorem dX7_fillBy_5 : decode cX7_fillBy 5 = .ok (.putfield 51, 3) := by decide +kernel
theorem dX7_fillBy_8 : decode cX7_fillBy 8 = .ok (.iconst 0, 1) := by decide +kernel
theorem dX7_fillBy_9 : decode cX7_fillBy 9 = .ok (.istore_n 2, 1) := by decide +kernel
theorem dX7_fillBy_10 : decode cX7_fillBy 10 = .ok (.iload_n 2, 1) := by decide +kernel
theorem dX7_fillBy_11 : decode cX7_fillBy 11 = .ok (.aload_n 0, 1) := by decide +kernel
theorem dX7_fillBy_12 : decode cX7_fillBy 12 = .ok (.getfield 51, 3) := by decide +kernel
theorem dX7_fillBy_15 : decode cX7_fillBy 15 = .ok (.if_icmp .ge 77, 3) := by decide +kernel
theorem dX7_fillBy_18 : decode cX7_fillBy 18 = .ok (.aload_n 0, 1) := by decide +kernel
theorem dX7_fillBy_19 : decode cX7_fillBy 19 = .ok (.getfield 33, 3) := by decide +kernel
theorem dX7_fillBy_22 : decode cX7_fillBy 22 = .ok (.iload_n 2, 1) := by decide +kernel
theorem dX7_fillBy_23 : decode cX7_fillBy 23 = .ok (.aload_n 1, 1) := by decide +kernel
theorem dX7_fillBy_24 : decode cX7_fillBy 24 = .ok (.getfield 54, 3) := by decide +kernel
theorem dX7_fillBy_27 : decode cX7_fillBy 27 = .ok (.iload_n 2, 1) := by decide +kernel
theorem dX7_fillBy_28 : decode cX7_fillBy 28 = .ok (.iaload, 1) := by decide +kernel
theorem dX7_fillBy_29 : decode cX7_fillBy 29 = .ok (.iastore, 1) := by decide +kernel
theorem dX7_fillBy_30 : decode cX7_fillBy 30 = .ok (.aload_n 0, 1) := by decide +kernel
theorem dX7_fillBy_31 : decode cX7_fillBy 31 = .ok (.getfield 42, 3) := by decide +kernel
theorem dX7_fillBy_34 : decode cX7_fillBy 34 = .ok (.iload_n 2, 1) := by decide +kernel
theorem dX7_fillBy_35 : decode cX7_fillBy 35 = .ok (.iconst 0, 1) := by decide +kernel
theorem dX7_fillBy_36 : decode cX7_fillBy 36 = .ok (.iastore, 1) := by decide +kernel
theorem dX7_fillBy_37 : decode cX7_fillBy 37 = .ok (.iconst 0, 1) := by decide +kernel
theorem dX7_fillBy_38 : decode cX7_fillBy 38 = .ok (.istore_n 3, 1) := by decide +kernel
theorem dX7_fillBy_39 : decode cX7_fillBy 39 = .ok (.iload_n 3, 1) := by decide +kernel
theorem dX7_fillBy_40 : decode cX7_fillBy 40 = .ok (.bipush 6, 2) := by decide +kernel
theorem dX7_fillBy_42 : decode cX7_fillBy 42 = .ok (.if_icmp .ge 44, 3) := by decide +kernel
theorem dX7_fillBy_45 : decode cX7_fillBy 45 = .ok (.aload_n 0, 1) := by decide +kernel
theorem dX7_fillBy_46 : decode cX7_fillBy 46 = .ok (.getfield 39, 3) := by decide +kernel
theorem dX7_fillBy_49 : decode cX7_fillBy 49 = .ok (.iload_n 2, 1) := by decide +kernel
theorem dX7_fillBy_50 : decode cX7_fillBy 50 = .ok (.aaload, 1) := by decide +kernel
theorem dX7_fillBy_51 : decode cX7_fillBy 51 = .ok (.iload_n 3, 1) := by decide +kernel
theorem dX7_fillBy_52 : decode cX7_fillBy 52 = .ok (.aload_n 1, 1) := by decide +kernel
theorem dX7_fillBy_53 : decode cX7_fillBy 53 = .ok (.getfield 55, 3) := by decide +kernel
theorem dX7_fillBy_56 : decode cX7_fillBy 56 = .ok (.iload_n 2, 1) := by decide +kernel
theorem dX7_fillBy_57 : decode cX7_fillBy 57 = .ok (.aaload, 1) := by decide +kernel
theorem dX7_fillBy_58 : decode cX7_fillBy 58 = .ok (.iload_n 3, 1) := by decide +kernel
theorem dX7_fillBy_59 : decode cX7_fillBy 59 = .ok (.iaload, 1) := by decide +kernel
theorem dX7_fillBy_60 : decode cX7_fillBy 60 = .ok (.iastore, 1) := by decide +kernel
theorem dX7_fillBy_61 : decode cX7_fillBy 61 = .ok (.aload_n 0, 1) := by decide +kernel
theorem dX7_fillBy_62 : decode cX7_fillBy 62 = .ok (.getfield 42, 3) := by decide +kernel
theorem dX7_fillBy_65 : decode cX7_fillBy 65 = .ok (.iload_n 2, 1) := by decide +kernel
theorem dX7_fillBy_66 : decode cX7_fillBy 66 = .ok (.dup2, 1) := by decide +kernel
theorem dX7_fillBy_67 : decode cX7_fillBy 67 = .ok (.iaload, 1) := by decide +kernel
theorem dX7_fillBy_68 : decode cX7_fillBy 68 = .ok (.iconst 1, 1) := by decide +kernel
theorem dX7_fillBy_69 : decode cX7_fillBy 69 = .ok (.aload_n 0, 1) := by decide +kernel
theorem dX7_fillBy_70 : decode cX7_fillBy 70 = .ok (.getfield 39, 3) := by decide +kernel
theorem dX7_fillBy_73 : decode cX7_fillBy 73 = .ok (.iload_n 2, 1) := by decide +kernel
theorem dX7_fillBy_74 : decode cX7_fillBy 74 = .ok (.aaload, 1) := by decide +kernel
theorem dX7_fillBy_75 : decode cX7_fillBy 75 = .ok (.iload_n 3, 1) := by decide +kernel
theorem dX7_fillBy_76 : decode cX7_fillBy 76 = .ok (.iaload, 1) := by decide +kernel
theorem dX7_fillBy_77 : decode cX7_fillBy 77 = .ok (.ishl, 1) := by decide +kernel
theorem dX7_fillBy_78 : decode cX7_fillBy 78 = .ok (.ior, 1) := by decide +kernel
theorem dX7_fillBy_79 : decode cX7_fillBy 79 = .ok (.iastore, 1) := by decide +kernel
theorem dX7_fillBy_80 : decode cX7_fillBy 80 = .ok (.iinc 3 1, 3) := by decide +kernel
theorem dX7_fillBy_83 : decode cX7_fillBy 83 = .ok (.goto (-44), 3) := by decide +kernel
theorem dX7_fillBy_86 : decode cX7_fillBy 86 = .ok (.iinc 2 1, 3) := by decide +kernel
theorem dX7_fillBy_89 : decode cX7_fillBy 89 = .ok (.goto (-79), 3) := by decide +kernel
theorem dX7_fillBy_92 : decode cX7_fillBy 92 = .ok (.return_, 1) := by decide +kernel
theorem dX7_kindAt_0 : decode cX7_kindAt 0 = .ok (.aload_n 0, 1) := by decide +kernel
theorem dX7_kindAt_1 : decode cX7_kindAt 1 = .ok (.getfield 27, 3) := by decide +kernel
theorem dX7_kindAt_4 : decode cX7_kindAt 4 = .ok (.aload_n 0, 1) := by decide +kernel
theorem dX7_kindAt_5 : decode cX7_kindAt 5 = .ok (.getfield 33, 3) := by decide +kernel
theorem dX7_kindAt_8 : decode cX7_kindAt 8 = .ok (.iload_n 1, 1) := by decide +kernel
theorem dX7_kindAt_9 : decode cX7_kindAt 9 = .ok (.iaload, 1) := by decide +kernel
theorem dX7_kindAt_10 : decode cX7_kindAt 10 = .ok (.aaload, 1) := by decide +kernel
theorem dX7_kindAt_11 : decode cX7_kindAt 11 = .ok (.areturn, 1) := by decide +kernel
theorem dX7_marked_0 : decode cX7_marked 0 = .ok (.iload_n 2, 1) := by decide +kernel
theorem dX7_marked_1 : decode cX7_marked 1 = .ok (.istore 4, 2) := by decide +kernel
theorem dX7_marked_3 : decode cX7_marked 3 = .ok (.iload_n 3, 1) := by decide +kernel
theorem dX7_marked_4 : decode cX7_marked 4 = .ok (.aload_n 0, 1) := by decide +kernel
theorem dX7_marked_5 : decode cX7_marked 5 = .ok (.getfield 42, 3) := by decide +kernel
theorem dX7_marked_8 : decode cX7_marked 8 = .ok (.iload_n 1, 1) := by decide +kernel
theorem dX7_marked_9 : decode cX7_marked 9 = .ok (.iaload, 1) := by decide +kernel
theorem dX7_marked_10 : decode cX7_marked 10 = .ok (.iand, 1) := by decide +kernel
theorem dX7_marked_11 : decode cX7_marked 11 = .ok (.ifCond .eq 40, 3) := by decide +kernel
theorem dX7_marked_14 : decode cX7_marked 14 = .ok (.iconst 0, 1) := by decide +kernel
theorem dX7_marked_15 : decode cX7_marked 15 = .ok (.istore 5, 2) := by decide +kernel
theorem dX7_marked_17 : decode cX7_marked 17 = .ok (.iload 5, 2) := by decide +kernel
theorem dX7_marked_19 : decode cX7_marked 19 = .ok (.bipush 6, 2) := by decide +kernel
theorem dX7_marked_21 : decode cX7_marked 21 = .ok (.if_icmp .ge 30, 3) := by decide +kernel
theorem dX7_marked_24 : decode cX7_marked 24 = .ok (.iload 4, 2) := by decide +kernel
theorem dX7_marked_26 : decode cX7_marked 26 = .ok (.iload_n 3, 1) := by decide +kernel
theorem dX7_marked_27 : decode cX7_marked 27 = .ok (.aload_n 0, 1) := by decide +kernel
theorem dX7_marked_28 : decode cX7_marked 28 = .ok (.getfield 39, 3) := by decide +kernel
theorem dX7_marked_31 : decode cX7_marked 31 = .ok (.iload_n 1, 1) := by decide +kernel
theorem dX7_marked_32 : decode cX7_marked 32 = .ok (.aaload, 1) := by decide +kernel
theorem dX7_marked_33 : decode cX7_marked 33 = .ok (.iload 5, 2) := by decide +kernel
theorem dX7_marked_35 : decode cX7_marked 35 = .ok (.iaload, 1) := by decide +kernel
theorem dX7_marked_36 : decode cX7_marked 36 = .ok (.ishr, 1) := by decide +kernel
theorem dX7_marked_37 : decode cX7_marked 37 = .ok (.iconst 1, 1) := by decide +kernel
theorem dX7_marked_38 : decode cX7_marked 38 = .ok (.iand, 1) := by decide +kernel
theorem dX7_marked_39 : decode cX7_marked 39 = .ok (.iload 5, 2) := by decide +kernel
theorem dX7_marked_41 : decode cX7_marked 41 = .ok (.ishl, 1) := by decide +kernel
theorem dX7_marked_42 : decode cX7_marked 42 = .ok (.ior, 1) := by decide +kernel
theorem dX7_marked_43 : decode cX7_marked 43 = .ok (.istore 4, 2) := by decide +kernel
theorem dX7_marked_45 : decode cX7_marked 45 = .ok (.iinc 5 1, 3) := by decide +kernel
theorem dX7_marked_48 : decode cX7_marked 48 = .ok (.goto (-31), 3) := by decide +kernel
theorem dX7_marked_51 : decode cX7_marked 51 = .ok (.iload 4, 2) := by decide +kernel
theorem dX7_marked_53 : decode cX7_marked 53 = .ok (.ireturn, 1) := by decide +kernel
theorem dX7_wholeOnes_0 : decode cX7_wholeOnes 0 = .ok (.iconst 0, 1) := by decide +kernel
theorem dX7_wholeOnes_1 : decode cX7_wholeOnes 1 = .ok (.istore_n 1, 1) := by decide +kernel
theorem dX7_wholeOnes_2 : decode cX7_wholeOnes 2 = .ok (.iconst 0, 1) := by decide +kernel
theorem dX7_wholeOnes_3 : decode cX7_wholeOnes 3 = .ok (.istore_n 2, 1) := by decide +kernel
theorem dX7_wholeOnes_4 : decode cX7_wholeOnes 4 = .ok (.iload_n 2, 1) := by decide +kernel
theorem dX7_wholeOnes_5 : decode cX7_wholeOnes 5 = .ok (.aload_n 0, 1) := by decide +kernel
theorem dX7_wholeOnes_6 : decode cX7_wholeOnes 6 = .ok (.getfield 51, 3) := by decide +kernel
theorem dX7_wholeOnes_9 : decode cX7_wholeOnes 9 = .ok (.if_icmp .ge 23, 3) := by decide +kernel
theorem dX7_wholeOnes_12 : decode cX7_wholeOnes 12 = .ok (.aload_n 0, 1) := by decide +kernel
theorem dX7_wholeOnes_13 : decode cX7_wholeOnes 13 = .ok (.iload_n 2, 1) := by decide +kernel
theorem dX7_wholeOnes_14 : decode cX7_wholeOnes 14 = .ok (.invokevirtual 56, 3) := by decide +kernel
theorem dX7_wholeOnes_17 : decode cX7_wholeOnes 17 = .ok (.instanceof 12, 3) := by decide +kernel
theorem dX7_wholeOnes_20 : decode cX7_wholeOnes 20 = .ok (.ifCond .eq 6, 3) := by decide +kernel
theorem dX7_wholeOnes_23 : decode cX7_wholeOnes 23 = .ok (.iinc 1 1, 3) := by decide +kernel
theorem dX7_wholeOnes_26 : decode cX7_wholeOnes 26 = .ok (.iinc 2 1, 3) := by decide +kernel
theorem dX7_wholeOnes_29 : decode cX7_wholeOnes 29 = .ok (.goto (-25), 3) := by decide +kernel
theorem dX7_wholeOnes_32 : decode cX7_wholeOnes 32 = .ok (.iload_n 1, 1) := by decide +kernel
theorem dX7_wholeOnes_33 : decode cX7_wholeOnes 33 = .ok (.ireturn, 1) := by decide +kernel
theorem dX7_deafOnes_0 : decode cX7_deafOnes 0 = .ok (.iconst 0, 1) := by decide +kernel
theorem dX7_deafOnes_1 : decode cX7_deafOnes 1 = .ok (.istore_n 1, 1) := by decide +kernel
theorem dX7_deafOnes_2 : decode cX7_deafOnes 2 = .ok (.iconst 0, 1) := by decide +kernel
theorem dX7_deafOnes_3 : decode cX7_deafOnes 3 = .ok (.istore_n 2, 1) := by decide +kernel
theorem dX7_deafOnes_4 : decode cX7_deafOnes 4 = .ok (.iload_n 2, 1) := by decide +kernel
theorem dX7_deafOnes_5 : decode cX7_deafOnes 5 = .ok (.aload_n 0, 1) := by decide +kernel
theorem dX7_deafOnes_6 : decode cX7_deafOnes 6 = .ok (.getfield 51, 3) := by decide +kernel
theorem dX7_deafOnes_9 : decode cX7_deafOnes 9 = .ok (.if_icmp .ge 23, 3) := by decide +kernel
theorem dX7_deafOnes_12 : decode cX7_deafOnes 12 = .ok (.aload_n 0, 1) := by decide +kernel
theorem dX7_deafOnes_13 : decode cX7_deafOnes 13 = .ok (.iload_n 2, 1) := by decide +kernel
theorem dX7_deafOnes_14 : decode cX7_deafOnes 14 = .ok (.invokevirtual 56, 3) := by decide +kernel
theorem dX7_deafOnes_17 : decode cX7_deafOnes 17 = .ok (.instanceof 15, 3) := by decide +kernel
theorem dX7_deafOnes_20 : decode cX7_deafOnes 20 = .ok (.ifCond .eq 6, 3) := by decide +kernel
theorem dX7_deafOnes_23 : decode cX7_deafOnes 23 = .ok (.iinc 1 1, 3) := by decide +kernel
theorem dX7_deafOnes_26 : decode cX7_deafOnes 26 = .ok (.iinc 2 1, 3) := by decide +kernel
theorem dX7_deafOnes_29 : decode cX7_deafOnes 29 = .ok (.goto (-25), 3) := by decide +kernel
theorem dX7_deafOnes_32 : decode cX7_deafOnes 32 = .ok (.iload_n 1, 1) := by decide +kernel
theorem dX7_deafOnes_33 : decode cX7_deafOnes 33 = .ok (.ireturn, 1) := by decide +kernel
theorem dX8_init_0 : decode cX8_init 0 = .ok (.aload_n 0, 1) := by decide +kernel
theorem dX8_init_1 : decode cX8_init 1 = .ok (.invokespecial 3, 3) := by decide +kernel
theorem dX8_init_4 : decode cX8_init 4 = .ok (.return_, 1) := by decide +kernel
theorem dX8_heard_0 : decode cX8_heard 0 = .ok (.aload_n 0, 1) := by decide +kernel
theorem dX8_heard_1 : decode cX8_heard 1 = .ok (.iload_n 1, 1) := by decide +kernel
theorem dX8_heard_2 : decode cX8_heard 2 = .ok (.iload_n 2, 1) := by decide +kernel
theorem dX8_heard_3 : decode cX8_heard 3 = .ok (.iload_n 3, 1) := by decide +kernel
theorem dX8_heard_4 : decode cX8_heard 4 = .ok (.invokespecial 9, 3) := by decide +kernel
theorem dX8_heard_7 : decode cX8_heard 7 = .ok (.istore 4, 2) := by decide +kernel
theorem dX8_heard_9 : decode cX8_heard 9 = .ok (.iload 4, 2) := by decide +kernel
theorem dX8_heard_11 : decode cX8_heard 11 = .ok (.ifCond .ne 7, 3) := by decide +kernel
theorem dX8_heard_14 : decode cX8_heard 14 = .ok (.iconst 0, 1) := by decide +kernel
theorem dX8_heard_15 : decode cX8_heard 15 = .ok (.goto 12, 3) := by decide +kernel
theorem dX8_heard_18 : decode cX8_heard 18 = .ok (.iload 4, 2) := by decide +kernel
theorem dX8_heard_20 : decode cX8_heard 20 = .ok (.iconst 1, 1) := by decide +kernel
theorem dX8_heard_21 : decode cX8_heard 21 = .ok (.iload_n 1, 1) := by decide +kernel
theorem dX8_heard_22 : decode cX8_heard 22 = .ok (.invokestatic 13, 3) := by decide +kernel
theorem dX8_heard_25 : decode cX8_heard 25 = .ok (.ishl, 1) := by decide +kernel
theorem dX8_heard_26 : decode cX8_heard 26 = .ok (.ior, 1) := by decide +kernel
theorem dX8_heard_27 : decode cX8_heard 27 = .ok (.ireturn, 1) := by decide +kernel
theorem dX8_behind_0 : decode cX8_behind 0 = .ok (.iload_n 0, 1) := by decide +kernel
theorem dX8_behind_1 : decode cX8_behind 1 = .ok (.bipush 12, 2) := by decide +kernel
theorem dX8_behind_3 : decode cX8_behind 3 = .ok (.irem, 1) := by decide +kernel
theorem dX8_behind_4 : decode cX8_behind 4 = .ok (.iconst 1, 1) := by decide +kernel
theorem dX8_behind_5 : decode cX8_behind 5 = .ok (.iadd, 1) := by decide +kernel
theorem dX8_behind_6 : decode cX8_behind 6 = .ok (.ireturn, 1) := by decide +kernel
theorem dX8_pairsOn_0 : decode cX8_pairsOn 0 = .ok (.iconst 0, 1) := by decide +kernel
theorem dX8_pairsOn_1 : decode cX8_pairsOn 1 = .ok (.istore_n 2, 1) := by decide +kernel
theorem dX8_pairsOn_2 : decode cX8_pairsOn 2 = .ok (.iconst 1, 1) := by decide +kernel
theorem dX8_pairsOn_3 : decode cX8_pairsOn 3 = .ok (.istore_n 3, 1) := by decide +kernel
theorem dX8_pairsOn_4 : decode cX8_pairsOn 4 = .ok (.iload_n 3, 1) := by decide +kernel
theorem dX8_pairsOn_5 : decode cX8_pairsOn 5 = .ok (.bipush 12, 2) := by decide +kernel
theorem dX8_pairsOn_7 : decode cX8_pairsOn 7 = .ok (.if_icmp .gt 33, 3) := by decide +kernel
theorem dX8_pairsOn_10 : decode cX8_pairsOn 10 = .ok (.iload_n 1, 1) := by decide +kernel
theorem dX8_pairsOn_11 : decode cX8_pairsOn 11 = .ok (.iload_n 3, 1) := by decide +kernel
theorem dX8_pairsOn_12 : decode cX8_pairsOn 12 = .ok (.ishr, 1) := by decide +kernel
theorem dX8_pairsOn_13 : decode cX8_pairsOn 13 = .ok (.iconst 1, 1) := by decide +kernel
theorem dX8_pairsOn_14 : decode cX8_pairsOn 14 = .ok (.iand, 1) := by decide +kernel
theorem dX8_pairsOn_15 : decode cX8_pairsOn 15 = .ok (.iconst 1, 1) := by decide +kernel
theorem dX8_pairsOn_16 : decode cX8_pairsOn 16 = .ok (.if_icmp .ne 18, 3) := by decide +kernel
theorem dX8_pairsOn_19 : decode cX8_pairsOn 19 = .ok (.iload_n 1, 1) := by decide +kernel
theorem dX8_pairsOn_20 : decode cX8_pairsOn 20 = .ok (.iload_n 3, 1) := by decide +kernel
theorem dX8_pairsOn_21 : decode cX8_pairsOn 21 = .ok (.invokestatic 13, 3) := by decide +kernel
theorem dX8_pairsOn_24 : decode cX8_pairsOn 24 = .ok (.ishr, 1) := by decide +kernel
theorem dX8_pairsOn_25 : decode cX8_pairsOn 25 = .ok (.iconst 1, 1) := by decide +kernel
theorem dX8_pairsOn_26 : decode cX8_pairsOn 26 = .ok (.iand, 1) := by decide +kernel
theorem dX8_pairsOn_27 : decode cX8_pairsOn 27 = .ok (.iconst 1, 1) := by decide +kernel
theorem dX8_pairsOn_28 : decode cX8_pairsOn 28 = .ok (.if_icmp .ne 6, 3) := by decide +kernel
theorem dX8_pairsOn_31 : decode cX8_pairsOn 31 = .ok (.iinc 2 1, 3) := by decide +kernel
theorem dX8_pairsOn_34 : decode cX8_pairsOn 34 = .ok (.iinc 3 1, 3) := by decide +kernel
theorem dX8_pairsOn_37 : decode cX8_pairsOn 37 = .ok (.goto (-33), 3) := by decide +kernel
theorem dX8_pairsOn_40 : decode cX8_pairsOn 40 = .ok (.iload_n 2, 1) := by decide +kernel
theorem dX8_pairsOn_41 : decode cX8_pairsOn 41 = .ok (.ireturn, 1) := by decide +kernel
theorem dX9_init_0 : decode cX9_init 0 = .ok (.aload_n 0, 1) := by decide +kernel
theorem dX9_init_1 : decode cX9_init 1 = .ok (.invokespecial 3, 3) := by decide +kernel
theorem dX9_init_4 : decode cX9_init 4 = .ok (.return_, 1) := by decide +kernel
theorem dX9_lacks_0 : decode cX9_lacks 0 = .ok (.bipush 6, 2) := by decide +kernel
theorem dX9_lacks_2 : decode cX9_lacks 2 = .ok (.aload_n 0, 1) := by decide +kernel
theorem dX9_lacks_3 : decode cX9_lacks 3 = .ok (.iload_n 1, 1) := by decide +kernel
theorem dX9_lacks_4 : decode cX9_lacks 4 = .ok (.invokevirtual 9, 3) := by decide +kernel
theorem dX9_lacks_7 : decode cX9_lacks 7 = .ok (.isub, 1) := by decide +kernel
theorem dX9_lacks_8 : decode cX9_lacks 8 = .ok (.aload_n 0, 1) := by decide +kernel
theorem dX9_lacks_9 : decode cX9_lacks 9 = .ok (.iload_n 1, 1) := by decide +kernel
theorem dX9_lacks_10 : decode cX9_lacks 10 = .ok (.invokevirtual 15, 3) := by decide +kernel
theorem dX9_lacks_13 : decode cX9_lacks 13 = .ok (.isub, 1) := by decide +kernel
theorem dX9_lacks_14 : decode cX9_lacks 14 = .ok (.ireturn, 1) := by decide +kernel
theorem dJ6_bitCount_0f7a4_0 : decode cJ6_bitCount_0f7a4 0 = .ok (.iload_n 0, 1) := by decide +kernel
theorem dJ6_bitCount_0f7a4_1 : decode cJ6_bitCount_0f7a4 1 = .ok (.iload_n 0, 1) := by decide +kernel
theorem dJ6_bitCount_0f7a4_2 : decode cJ6_bitCount_0f7a4 2 = .ok (.iconst 1, 1) := by decide +kernel
theorem dJ6_bitCount_0f7a4_3 : decode cJ6_bitCount_0f7a4 3 = .ok (.iushr, 1) := by decide +kernel
theorem dJ6_bitCount_0f7a4_4 : decode cJ6_bitCount_0f7a4 4 = .ok (.ldc_w 265, 3) := by decide +kernel
theorem dJ6_bitCount_0f7a4_7 : decode cJ6_bitCount_0f7a4 7 = .ok (.iand, 1) := by decide +kernel
theorem dJ6_bitCount_0f7a4_8 : decode cJ6_bitCount_0f7a4 8 = .ok (.isub, 1) := by decide +kernel
theorem dJ6_bitCount_0f7a4_9 : decode cJ6_bitCount_0f7a4 9 = .ok (.istore_n 0, 1) := by decide +kernel
theorem dJ6_bitCount_0f7a4_10 : decode cJ6_bitCount_0f7a4 10 = .ok (.iload_n 0, 1) := by decide +kernel
theorem dJ6_bitCount_0f7a4_11 : decode cJ6_bitCount_0f7a4 11 = .ok (.ldc_w 266, 3) := by decide +kernel
theorem dJ6_bitCount_0f7a4_14 : decode cJ6_bitCount_0f7a4 14 = .ok (.iand, 1) := by decide +kernel
theorem dJ6_bitCount_0f7a4_15 : decode cJ6_bitCount_0f7a4 15 = .ok (.iload_n 0, 1) := by decide +kernel
theorem dJ6_bitCount_0f7a4_16 : decode cJ6_bitCount_0f7a4 16 = .ok (.iconst 2, 1) := by decide +kernel
theorem dJ6_bitCount_0f7a4_17 : decode cJ6_bitCount_0f7a4 17 = .ok (.iushr, 1) := by decide +kernel
theorem dJ6_bitCount_0f7a4_18 : decode cJ6_bitCount_0f7a4 18 = .ok (.ldc_w 266, 3) := by decide +kernel
theorem dJ6_bitCount_0f7a4_21 : decode cJ6_bitCount_0f7a4 21 = .ok (.iand, 1) := by decide +kernel
theorem dJ6_bitCount_0f7a4_22 : decode cJ6_bitCount_0f7a4 22 = .ok (.iadd, 1) := by decide +kernel
theorem dJ6_bitCount_0f7a4_23 : decode cJ6_bitCount_0f7a4 23 = .ok (.istore_n 0, 1) := by decide +kernel
theorem dJ6_bitCount_0f7a4_24 : decode cJ6_bitCount_0f7a4 24 = .ok (.iload_n 0, 1) := by decide +kernel
theorem dJ6_bitCount_0f7a4_25 : decode cJ6_bitCount_0f7a4 25 = .ok (.iload_n 0, 1) := by decide +kernel
theorem dJ6_bitCount_0f7a4_26 : decode cJ6_bitCount_0f7a4 26 = .ok (.iconst 4, 1) := by decide +kernel
theorem dJ6_bitCount_0f7a4_27 : decode cJ6_bitCount_0f7a4 27 = .ok (.iushr, 1) := by decide +kernel
theorem dJ6_bitCount_0f7a4_28 : decode cJ6_bitCount_0f7a4 28 = .ok (.iadd, 1) := by decide +kernel
theorem dJ6_bitCount_0f7a4_29 : decode cJ6_bitCount_0f7a4 29 = .ok (.ldc_w 267, 3) := by decide +kernel
theorem dJ6_bitCount_0f7a4_32 : decode cJ6_bitCount_0f7a4 32 = .ok (.iand, 1) := by decide +kernel
theorem dJ6_bitCount_0f7a4_33 : decode cJ6_bitCount_0f7a4 33 = .ok (.istore_n 0, 1) := by decide +kernel
theorem dJ6_bitCount_0f7a4_34 : decode cJ6_bitCount_0f7a4 34 = .ok (.iload_n 0, 1) := by decide +kernel
theorem dJ6_bitCount_0f7a4_35 : decode cJ6_bitCount_0f7a4 35 = .ok (.iload_n 0, 1) := by decide +kernel
theorem dJ6_bitCount_0f7a4_36 : decode cJ6_bitCount_0f7a4 36 = .ok (.bipush 8, 2) := by decide +kernel
theorem dJ6_bitCount_0f7a4_38 : decode cJ6_bitCount_0f7a4 38 = .ok (.iushr, 1) := by decide +kernel
theorem dJ6_bitCount_0f7a4_39 : decode cJ6_bitCount_0f7a4 39 = .ok (.iadd, 1) := by decide +kernel
theorem dJ6_bitCount_0f7a4_40 : decode cJ6_bitCount_0f7a4 40 = .ok (.istore_n 0, 1) := by decide +kernel
theorem dJ6_bitCount_0f7a4_41 : decode cJ6_bitCount_0f7a4 41 = .ok (.iload_n 0, 1) := by decide +kernel
theorem dJ6_bitCount_0f7a4_42 : decode cJ6_bitCount_0f7a4 42 = .ok (.iload_n 0, 1) := by decide +kernel
theorem dJ6_bitCount_0f7a4_43 : decode cJ6_bitCount_0f7a4 43 = .ok (.bipush 16, 2) := by decide +kernel
theorem dJ6_bitCount_0f7a4_45 : decode cJ6_bitCount_0f7a4 45 = .ok (.iushr, 1) := by decide +kernel
theorem dJ6_bitCount_0f7a4_46 : decode cJ6_bitCount_0f7a4 46 = .ok (.iadd, 1) := by decide +kernel
theorem dJ6_bitCount_0f7a4_47 : decode cJ6_bitCount_0f7a4 47 = .ok (.istore_n 0, 1) := by decide +kernel
theorem dJ6_bitCount_0f7a4_48 : decode cJ6_bitCount_0f7a4 48 = .ok (.iload_n 0, 1) := by decide +kernel
theorem dJ6_bitCount_0f7a4_49 : decode cJ6_bitCount_0f7a4 49 = .ok (.bipush 63, 2) := by decide +kernel
theorem dJ6_bitCount_0f7a4_51 : decode cJ6_bitCount_0f7a4 51 = .ok (.iand, 1) := by decide +kernel
theorem dJ6_bitCount_0f7a4_52 : decode cJ6_bitCount_0f7a4 52 = .ok (.ireturn, 1) := by decide +kernel
theorem dJ9_max_7cf53_0 : decode cJ9_max_7cf53 0 = .ok (.iload_n 0, 1) := by decide +kernel
theorem dJ9_max_7cf53_1 : decode cJ9_max_7cf53 1 = .ok (.iload_n 1, 1) := by decide +kernel
theorem dJ9_max_7cf53_2 : decode cJ9_max_7cf53 2 = .ok (.if_icmp .lt 7, 3) := by decide +kernel
theorem dJ9_max_7cf53_5 : decode cJ9_max_7cf53 5 = .ok (.iload_n 0, 1) := by decide +kernel
theorem dJ9_max_7cf53_6 : decode cJ9_max_7cf53 6 = .ok (.goto 4, 3) := by decide +kernel
theorem dJ9_max_7cf53_9 : decode cJ9_max_7cf53 9 = .ok (.iload_n 1, 1) := by decide +kernel
theorem dJ9_max_7cf53_10 : decode cJ9_max_7cf53 10 = .ok (.ireturn, 1) := by decide +kernel
theorem dJ9_min_7cf53_0 : decode cJ9_min_7cf53 0 = .ok (.iload_n 0, 1) := by decide +kernel
theorem dJ9_min_7cf53_1 : decode cJ9_min_7cf53 1 = .ok (.iload_n 1, 1) := by decide +kernel
theorem dJ9_min_7cf53_2 : decode cJ9_min_7cf53 2 = .ok (.if_icmp .gt 7, 3) := by decide +kernel
theorem dJ9_min_7cf53_5 : decode cJ9_min_7cf53 5 = .ok (.iload_n 0, 1) := by decide +kernel
theorem dJ9_min_7cf53_6 : decode cJ9_min_7cf53 6 = .ok (.goto 4, 3) := by decide +kernel
theorem dJ9_min_7cf53_9 : decode cJ9_min_7cf53 9 = .ok (.iload_n 1, 1) := by decide +kernel
theorem dJ9_min_7cf53_10 : decode cJ9_min_7cf53 10 = .ok (.ireturn, 1) := by decide +kernel
theorem dJ7_fill_53178_0 : decode cJ7_fill_53178 0 = .ok (.iconst 0, 1) := by decide +kernel
theorem dJ7_fill_53178_1 : decode cJ7_fill_53178 1 = .ok (.istore_n 2, 1) := by decide +kernel
theorem dJ7_fill_53178_2 : decode cJ7_fill_53178 2 = .ok (.aload_n 0, 1) := by decide +kernel
theorem dJ7_fill_53178_3 : decode cJ7_fill_53178 3 = .ok (.arraylength, 1) := by decide +kernel
theorem dJ7_fill_53178_4 : decode cJ7_fill_53178 4 = .ok (.istore_n 3, 1) := by decide +kernel
theorem dJ7_fill_53178_5 : decode cJ7_fill_53178 5 = .ok (.iload_n 2, 1) := by decide +kernel
theorem dJ7_fill_53178_6 : decode cJ7_fill_53178 6 = .ok (.iload_n 3, 1) := by decide +kernel
theorem dJ7_fill_53178_7 : decode cJ7_fill_53178 7 = .ok (.if_icmp .ge 13, 3) := by decide +kernel
theorem dJ7_fill_53178_10 : decode cJ7_fill_53178 10 = .ok (.aload_n 0, 1) := by decide +kernel
theorem dJ7_fill_53178_11 : decode cJ7_fill_53178 11 = .ok (.iload_n 2, 1) := by decide +kernel
theorem dJ7_fill_53178_12 : decode cJ7_fill_53178 12 = .ok (.iload_n 1, 1) := by decide +kernel
theorem dJ7_fill_53178_13 : decode cJ7_fill_53178 13 = .ok (.iastore, 1) := by decide +kernel
theorem dJ7_fill_53178_14 : decode cJ7_fill_53178 14 = .ok (.iinc 2 1, 3) := by decide +kernel
theorem dJ7_fill_53178_17 : decode cJ7_fill_53178 17 = .ok (.goto (-12), 3) := by decide +kernel
theorem dJ7_fill_53178_20 : decode cJ7_fill_53178 20 = .ok (.return_, 1) := by decide +kernel
theorem dJ7_fill_031fb_0 : decode cJ7_fill_031fb 0 = .ok (.iconst 0, 1) := by decide +kernel
theorem dJ7_fill_031fb_1 : decode cJ7_fill_031fb 1 = .ok (.istore_n 2, 1) := by decide +kernel
theorem dJ7_fill_031fb_2 : decode cJ7_fill_031fb 2 = .ok (.aload_n 0, 1) := by decide +kernel
theorem dJ7_fill_031fb_3 : decode cJ7_fill_031fb 3 = .ok (.arraylength, 1) := by decide +kernel
theorem dJ7_fill_031fb_4 : decode cJ7_fill_031fb 4 = .ok (.istore_n 3, 1) := by decide +kernel
theorem dJ7_fill_031fb_5 : decode cJ7_fill_031fb 5 = .ok (.iload_n 2, 1) := by decide +kernel
theorem dJ7_fill_031fb_6 : decode cJ7_fill_031fb 6 = .ok (.iload_n 3, 1) := by decide +kernel
theorem dJ7_fill_031fb_7 : decode cJ7_fill_031fb 7 = .ok (.if_icmp .ge 13, 3) := by decide +kernel
theorem dJ7_fill_031fb_10 : decode cJ7_fill_031fb 10 = .ok (.aload_n 0, 1) := by decide +kernel
theorem dJ7_fill_031fb_11 : decode cJ7_fill_031fb 11 = .ok (.iload_n 2, 1) := by decide +kernel
theorem dJ7_fill_031fb_12 : decode cJ7_fill_031fb 12 = .ok (.iload_n 1, 1) := by decide +kernel
theorem dJ7_fill_031fb_13 : decode cJ7_fill_031fb 13 = .ok (.bastore, 1) := by decide +kernel
theorem dJ7_fill_031fb_14 : decode cJ7_fill_031fb 14 = .ok (.iinc 2 1, 3) := by decide +kernel
theorem dJ7_fill_031fb_17 : decode cJ7_fill_031fb 17 = .ok (.goto (-12), 3) := by decide +kernel
theorem dJ7_fill_031fb_20 : decode cJ7_fill_031fb 20 = .ok (.return_, 1) := by decide +kernel
end
section
theorem dX10_init_0 : decode cX10_init 0 = .ok (.aload_n 0, 1) := by decide +kernel
theorem dX10_init_1 : decode cX10_init 1 = .ok (.invokespecial 1, 3) := by decide +kernel
theorem dX10_init_4 : decode cX10_init 4 = .ok (.aload_n 0, 1) := by decide +kernel
theorem dX10_init_5 : decode cX10_init 5 = .ok (.bipush 6, 2) := by decide +kernel
theorem dX10_init_7 : decode cX10_init 7 = .ok (.bipush 40, 2) := by decide +kernel
theorem dX10_init_9 : decode cX10_init 9 = .ok (.multianewarray 9 2, 4) := by decide +kernel
theorem dX10_init_13 : decode cX10_init 13 = .ok (.putfield 11, 3) := by decide +kernel
theorem dX10_init_16 : decode cX10_init 16 = .ok (.aload_n 0, 1) := by decide +kernel
theorem dX10_init_17 : decode cX10_init 17 = .ok (.bipush 6, 2) := by decide +kernel
theorem dX10_init_19 : decode cX10_init 19 = .ok (.newarray .int, 2) := by decide +kernel
theorem dX10_init_21 : decode cX10_init 21 = .ok (.putfield 14, 3) := by decide +kernel
theorem dX10_init_24 : decode cX10_init 24 = .ok (.aload_n 0, 1) := by decide +kernel
theorem dX10_init_25 : decode cX10_init 25 = .ok (.iconst 4, 1) := by decide +kernel
theorem dX10_init_26 : decode cX10_init 26 = .ok (.bipush 60, 2) := by decide +kernel
theorem dX10_init_28 : decode cX10_init 28 = .ok (.multianewarray 18 2, 4) := by decide +kernel
theorem dX10_init_32 : decode cX10_init 32 = .ok (.putfield 20, 3) := by decide +kernel
theorem dX10_init_35 : decode cX10_init 35 = .ok (.aload_n 0, 1) := by decide +kernel
theorem dX10_init_36 : decode cX10_init 36 = .ok (.iconst 4, 1) := by decide +kernel
theorem dX10_init_37 : decode cX10_init 37 = .ok (.newarray .int, 2) := by decide +kernel
theorem dX10_init_39 : decode cX10_init 39 = .ok (.putfield 23, 3) := by decide +kernel
theorem dX10_init_42 : decode cX10_init 42 = .ok (.aload_n 0, 1) := by decide +kernel
theorem dX10_init_43 : decode cX10_init 43 = .ok (.new 26, 3) := by decide +kernel
theorem dX10_init_46 : decode cX10_init 46 = .ok (.dup, 1) := by decide +kernel
theorem dX10_init_47 : decode cX10_init 47 = .ok (.invokespecial 28, 3) := by decide +kernel
theorem dX10_init_50 : decode cX10_init 50 = .ok (.putfield 29, 3) := by decide +kernel
theorem dX10_init_53 : decode cX10_init 53 = .ok (.aload_n 0, 1) := by decide +kernel
theorem dX10_init_54 : decode cX10_init 54 = .ok (.new 33, 3) := by decide +kernel
theorem dX10_init_57 : decode cX10_init 57 = .ok (.dup, 1) := by decide +kernel
theorem dX10_init_58 : decode cX10_init 58 = .ok (.invokespecial 35, 3) := by decide +kernel
theorem dX10_init_61 : decode cX10_init 61 = .ok (.putfield 36, 3) := by decide +kernel
theorem dX10_init_64 : decode cX10_init 64 = .ok (.aload_n 0, 1) := by decide +kernel
theorem dX10_init_65 : decode cX10_init 65 = .ok (.new 40, 3) := by decide +kernel
theorem dX10_init_68 : decode cX10_init 68 = .ok (.dup, 1) := by decide +kernel
theorem dX10_init_69 : decode cX10_init 69 = .ok (.aload_n 0, 1) := by decide +kernel
theorem dX10_init_70 : decode cX10_init 70 = .ok (.getfield 36, 3) := by decide +kernel
theorem dX10_init_73 : decode cX10_init 73 = .ok (.invokespecial 42, 3) := by decide +kernel
theorem dX10_init_76 : decode cX10_init 76 = .ok (.putfield 45, 3) := by decide +kernel
theorem dX10_init_79 : decode cX10_init 79 = .ok (.aload_n 0, 1) := by decide +kernel
theorem dX10_init_80 : decode cX10_init 80 = .ok (.new 49, 3) := by decide +kernel
theorem dX10_init_83 : decode cX10_init 83 = .ok (.dup, 1) := by decide +kernel
theorem dX10_init_84 : decode cX10_init 84 = .ok (.invokespecial 51, 3) := by decide +kernel
theorem dX10_init_87 : decode cX10_init 87 = .ok (.putfield 52, 3) := by decide +kernel
theorem dX10_init_90 : decode cX10_init 90 = .ok (.aload_n 0, 1) := by decide +kernel
theorem dX10_init_91 : decode cX10_init 91 = .ok (.iconst 3, 1) := by decide +kernel
theorem dX10_init_92 : decode cX10_init 92 = .ok (.anewarray 49, 3) := by decide +kernel
theorem dX10_init_95 : decode cX10_init 95 = .ok (.putfield 56, 3) := by decide +kernel
theorem dX10_init_98 : decode cX10_init 98 = .ok (.aload_n 0, 1) := by decide +kernel
theorem dX10_init_99 : decode cX10_init 99 = .ok (.iconst 5, 1) := by decide +kernel
theorem dX10_init_100 : decode cX10_init 100 = .ok (.anewarray 40, 3) := by decide +kernel
theorem dX10_init_103 : decode cX10_init 103 = .ok (.putfield 60, 3) := by decide +kernel
theorem dX10_init_106 : decode cX10_init 106 = .ok (.aload_n 0, 1) := by decide +kernel
theorem dX10_init_107 : decode cX10_init 107 = .ok (.iconst 4, 1) := by decide +kernel
theorem dX10_init_108 : decode cX10_init 108 = .ok (.newarray .int, 2) := by decide +kernel
theorem dX10_init_110 : decode cX10_init 110 = .ok (.putfield 64, 3) := by decide +kernel
theorem dX10_init_113 : decode cX10_init 113 = .ok (.aload_n 0, 1) := by decide +kernel
theorem dX10_init_114 : decode cX10_init 114 = .ok (.bipush 7, 2) := by decide +kernel
theorem dX10_init_116 : decode cX10_init 116 = .ok (.newarray .int, 2) := by decide +kernel
theorem dX10_init_118 : decode cX10_init 118 = .ok (.putfield 67, 3) := by decide +kernel
theorem dX10_init_121 : decode cX10_init 121 = .ok (.aload_n 0, 1) := by decide +kernel
theorem dX10_init_122 : decode cX10_init 122 = .ok (.lconst 1, 1) := by decide +kernel
theorem dX10_init_123 : decode cX10_init 123 = .ok (.putfield 70, 3) := by decide +kernel
theorem dX10_init_126 : decode cX10_init 126 = .ok (.aload_n 0, 1) := by decide +kernel
theorem dX10_init_127 : decode cX10_init 127 = .ok (.bipush 6, 2) := by decide +kernel
theorem dX10_init_129 : decode cX10_init 129 = .ok (.newarray .int, 2) := by decide +kernel
theorem dX10_init_131 : decode cX10_init 131 = .ok (.putfield 74, 3) := by decide +kernel
theorem dX10_init_134 : decode cX10_init 134 = .ok (.aload_n 0, 1) := by decide +kernel
theorem dX10_init_135 : decode cX10_init 135 = .ok (.getfield 14, 3) := by decide +kernel
theorem dX10_init_138 : decode cX10_init 138 = .ok (.iconst (-1), 1) := by decide +kernel
theorem dX10_init_139 : decode cX10_init 139 = .ok (.invokestatic 77, 3) := by decide +kernel
theorem dX10_init_142 : decode cX10_init 142 = .ok (.aload_n 0, 1) := by decide +kernel
theorem dX10_init_143 : decode cX10_init 143 = .ok (.getfield 23, 3) := by decide +kernel
theorem dX10_init_146 : decode cX10_init 146 = .ok (.iconst (-1), 1) := by decide +kernel
theorem dX10_init_147 : decode cX10_init 147 = .ok (.invokestatic 77, 3) := by decide +kernel
theorem dX10_init_150 : decode cX10_init 150 = .ok (.iconst 0, 1) := by decide +kernel
theorem dX10_init_151 : decode cX10_init 151 = .ok (.istore_n 1, 1) := by decide +kernel
theorem dX10_init_152 : decode cX10_init 152 = .ok (.iload_n 1, 1) := by decide +kernel
theorem dX10_init_153 : decode cX10_init 153 = .ok (.iconst 3, 1) := by decide +kernel
theorem dX10_init_154 : decode cX10_init 154 = .ok (.if_icmp .ge 32, 3) := by decide +kernel
theorem dX10_init_157 : decode cX10_init 157 = .ok (.aload_n 0, 1) := by decide +kernel
theorem dX10_init_158 : decode cX10_init 158 = .ok (.getfield 56, 3) := by decide +kernel
theorem dX10_init_161 : decode cX10_init 161 = .ok (.iload_n 1, 1) := by decide +kernel
theorem dX10_init_162 : decode cX10_init 162 = .ok (.new 49, 3) := by decide +kernel
theorem dX10_init_165 : decode cX10_init 165 = .ok (.dup, 1) := by decide +kernel
theorem dX10_init_166 : decode cX10_init 166 = .ok (.invokespecial 51, 3) := by decide +kernel
theorem dX10_init_169 : decode cX10_init 169 = .ok (.aastore, 1) := by decide +kernel
theorem dX10_init_170 : decode cX10_init 170 = .ok (.aload_n 0, 1) := by decide +kernel
theorem dX10_init_171 : decode cX10_init 171 = .ok (.getfield 56, 3) := by decide +kernel
theorem dX10_init_174 : decode cX10_init 174 = .ok (.iload_n 1, 1) := by decide +kernel
theorem dX10_init_175 : decode cX10_init 175 = .ok (.aaload, 1) := by decide +kernel
theorem dX10_init_176 : decode cX10_init 176 = .ok (.iconst (-1), 1) := by decide +kernel
theorem dX10_init_177 : decode cX10_init 177 = .ok (.putfield 83, 3) := by decide +kernel
theorem dX10_init_180 : decode cX10_init 180 = .ok (.iinc 1 1, 3) := by decide +kernel
theorem dX10_init_183 : decode cX10_init 183 = .ok (.goto (-31), 3) := by decide +kernel
theorem dX10_init_186 : decode cX10_init 186 = .ok (.iconst 0, 1) := by decide +kernel
theorem dX10_init_187 : decode cX10_init 187 = .ok (.istore_n 1, 1) := by decide +kernel
theorem dX10_init_188 : decode cX10_init 188 = .ok (.iload_n 1, 1) := by decide +kernel
theorem dX10_init_189 : decode cX10_init 189 = .ok (.iconst 4, 1) := by decide +kernel
theorem dX10_init_190 : decode cX10_init 190 = .ok (.if_icmp .gt 26, 3) := by decide +kernel
theorem dX10_init_193 : decode cX10_init 193 = .ok (.aload_n 0, 1) := by decide +kernel
theorem dX10_init_194 : decode cX10_init 194 = .ok (.getfield 60, 3) := by decide +kernel
theorem dX10_init_197 : decode cX10_init 197 = .ok (.iload_n 1, 1) := by decide +kernel
theorem dX10_init_198 : decode cX10_init 198 = .ok (.new 40, 3) := by decide +kernel
theorem dX10_init_201 : decode cX10_init 201 = .ok (.dup, 1) := by decide +kernel
theorem dX10_init_202 : decode cX10_init 202 = .ok (.aload_n 0, 1) := by decide +kernel
theorem dX10_init_203 : decode cX10_init 203 = .ok (.getfield 36, 3) := by decide +kernel
theorem dX10_init_206 : decode cX10_init 206 = .ok (.invokespecial 42, 3) := by decide +kernel
theorem dX10_init_209 : decode cX10_init 209 = .ok (.aastore, 1) := by decide +kernel
theorem dX10_init_210 : decode cX10_init 210 = .ok (.iinc 1 1, 3) := by decide +kernel
theorem dX10_init_213 : decode cX10_init 213 = .ok (.goto (-25), 3) := by decide +kernel
theorem dX10_init_216 : decode cX10_init 216 = .ok (.return_, 1) := by decide +kernel
theorem dX10_row_0 : decode cX10_row 0 = .ok (.aload_n 0, 1) := by decide +kernel
theorem dX10_row_1 : decode cX10_row 1 = .ok (.iload_n 1, 1) := by decide +kernel
theorem dX10_row_2 : decode cX10_row 2 = .ok (.invokevirtual 87, 3) := by decide +kernel
theorem dX10_row_5 : decode cX10_row 5 = .ok (.ifCond .eq 9, 3) := by decide +kernel
theorem dX10_row_8 : decode cX10_row 8 = .ok (.iload_n 2, 1) := by decide +kernel
theorem dX10_row_9 : decode cX10_row 9 = .ok (.bipush 40, 2) := by decide +kernel
theorem dX10_row_11 : decode cX10_row 11 = .ok (.if_icmp .le 5, 3) := by decide +kernel
theorem dX10_row_14 : decode cX10_row 14 = .ok (.iconst (-1), 1) := by decide +kernel
theorem dX10_row_15 : decode cX10_row 15 = .ok (.ireturn, 1) := by decide +kernel
theorem dX10_row_16 : decode cX10_row 16 = .ok (.iload_n 2, 1) := by decide +kernel
theorem dX10_row_17 : decode cX10_row 17 = .ok (.ifCond .ge 9, 3) := by decide +kernel
theorem dX10_row_20 : decode cX10_row 20 = .ok (.aload_n 0, 1) := by decide +kernel
theorem dX10_row_21 : decode cX10_row 21 = .ok (.iconst 5, 1) := by decide +kernel
theorem dX10_row_22 : decode cX10_row 22 = .ok (.invokevirtual 91, 3) := by decide +kernel
theorem dX10_row_25 : decode cX10_row 25 = .ok (.ireturn, 1) := by decide +kernel
theorem dX10_row_26 : decode cX10_row 26 = .ok (.aload_n 0, 1) := by decide +kernel
theorem dX10_row_27 : decode cX10_row 27 = .ok (.getfield 11, 3) := by decide +kernel
theorem dX10_row_30 : decode cX10_row 30 = .ok (.iload_n 1, 1) := by decide +kernel
theorem dX10_row_31 : decode cX10_row 31 = .ok (.aaload, 1) := by decide +kernel
theorem dX10_row_32 : decode cX10_row 32 = .ok (.iconst 0, 1) := by decide +kernel
theorem dX10_row_33 : decode cX10_row 33 = .ok (.invokestatic 77, 3) := by decide +kernel
theorem dX10_row_36 : decode cX10_row 36 = .ok (.aload_n 0, 1) := by decide +kernel
theorem dX10_row_37 : decode cX10_row 37 = .ok (.getfield 14, 3) := by decide +kernel
theorem dX10_row_40 : decode cX10_row 40 = .ok (.iload_n 1, 1) := by decide +kernel
theorem dX10_row_41 : decode cX10_row 41 = .ok (.iload_n 2, 1) := by decide +kernel
theorem dX10_row_42 : decode cX10_row 42 = .ok (.iastore, 1) := by decide +kernel
theorem dX10_row_43 : decode cX10_row 43 = .ok (.iload_n 2, 1) := by decide +kernel
theorem dX10_row_44 : decode cX10_row 44 = .ok (.ireturn, 1) := by decide +kernel
theorem dX10_lay_0 : decode cX10_lay 0 = .ok (.aload_n 0, 1) := by decide +kernel
theorem dX10_lay_1 : decode cX10_lay 1 = .ok (.iload_n 1, 1) := by decide +kernel
theorem dX10_lay_2 : decode cX10_lay 2 = .ok (.iload_n 2, 1) := by decide +kernel
theorem dX10_lay_3 : decode cX10_lay 3 = .ok (.invokevirtual 95, 3) := by decide +kernel
theorem dX10_lay_6 : decode cX10_lay 6 = .ok (.istore 4, 2) := by decide +kernel
theorem dX10_lay_8 : decode cX10_lay 8 = .ok (.iload 4, 2) := by decide +kernel
theorem dX10_lay_10 : decode cX10_lay 10 = .ok (.ifCond .eq 6, 3) := by decide +kernel
theorem dX10_lay_13 : decode cX10_lay 13 = .ok (.iload 4, 2) := by decide +kernel
theorem dX10_lay_15 : decode cX10_lay 15 = .ok (.ireturn, 1) := by decide +kernel
theorem dX10_lay_16 : decode cX10_lay 16 = .ok (.aload_n 0, 1) := by decide +kernel
theorem dX10_lay_17 : decode cX10_lay 17 = .ok (.aload_n 0, 1) := by decide +kernel
theorem dX10_lay_18 : decode cX10_lay 18 = .ok (.getfield 11, 3) := by decide +kernel
theorem dX10_lay_21 : decode cX10_lay 21 = .ok (.iload_n 1, 1) := by decide +kernel
theorem dX10_lay_22 : decode cX10_lay 22 = .ok (.aaload, 1) := by decide +kernel
theorem dX10_lay_23 : decode cX10_lay 23 = .ok (.iload_n 2, 1) := by decide +kernel
theorem dX10_lay_24 : decode cX10_lay 24 = .ok (.iaload, 1) := by decide +kernel
theorem dX10_lay_25 : decode cX10_lay 25 = .ok (.putfield 99, 3) := by decide +kernel
theorem dX10_lay_28 : decode cX10_lay 28 = .ok (.aload_n 0, 1) := by decide +kernel
theorem dX10_lay_29 : decode cX10_lay 29 = .ok (.getfield 11, 3) := by decide +kernel
theorem dX10_lay_32 : decode cX10_lay 32 = .ok (.iload_n 1, 1) := by decide +kernel
theorem dX10_lay_33 : decode cX10_lay 33 = .ok (.aaload, 1) := by decide +kernel
theorem dX10_lay_34 : decode cX10_lay 34 = .ok (.iload_n 2, 1) := by decide +kernel
theorem dX10_lay_35 : decode cX10_lay 35 = .ok (.iload_n 3, 1) := by decide +kernel
theorem dX10_lay_36 : decode cX10_lay 36 = .ok (.iastore, 1) := by decide +kernel
theorem dX10_lay_37 : decode cX10_lay 37 = .ok (.iconst 1, 1) := by decide +kernel
theorem dX10_lay_38 : decode cX10_lay 38 = .ok (.ireturn, 1) := by decide +kernel
theorem dX10_at_0 : decode cX10_at 0 = .ok (.aload_n 0, 1) := by decide +kernel
theorem dX10_at_1 : decode cX10_at 1 = .ok (.iload_n 1, 1) := by decide +kernel
theorem dX10_at_2 : decode cX10_at 2 = .ok (.iload_n 2, 1) := by decide +kernel
theorem dX10_at_3 : decode cX10_at 3 = .ok (.invokevirtual 95, 3) := by decide +kernel
theorem dX10_at_6 : decode cX10_at 6 = .ok (.istore_n 3, 1) := by decide +kernel
theorem dX10_at_7 : decode cX10_at 7 = .ok (.iload_n 3, 1) := by decide +kernel
theorem dX10_at_8 : decode cX10_at 8 = .ok (.ifCond .eq 5, 3) := by decide +kernel
theorem dX10_at_11 : decode cX10_at 11 = .ok (.iload_n 3, 1) := by decide +kernel
theorem dX10_at_12 : decode cX10_at 12 = .ok (.ireturn, 1) := by decide +kernel
theorem dX10_at_13 : decode cX10_at 13 = .ok (.aload_n 0, 1) := by decide +kernel
theorem dX10_at_14 : decode cX10_at 14 = .ok (.aload_n 0, 1) := by decide +kernel
theorem dX10_at_15 : decode cX10_at 15 = .ok (.getfield 11, 3) := by decide +kernel
theorem dX10_at_18 : decode cX10_at 18 = .ok (.iload_n 1, 1) := by decide +kernel
theorem dX10_at_19 : decode cX10_at 19 = .ok (.aaload, 1) := by decide +kernel
theorem dX10_at_20 : decode cX10_at 20 = .ok (.iload_n 2, 1) := by decide +kernel
theorem dX10_at_21 : decode cX10_at 21 = .ok (.iaload, 1) := by decide +kernel
theorem dX10_at_22 : decode cX10_at 22 = .ok (.putfield 99, 3) := by decide +kernel
theorem dX10_at_25 : decode cX10_at 25 = .ok (.iconst 1, 1) := by decide +kernel
theorem dX10_at_26 : decode cX10_at 26 = .ok (.ireturn, 1) := by decide +kernel
theorem dX10_tear_0 : decode cX10_tear 0 = .ok (.aload_n 0, 1) := by decide +kernel
theorem dX10_tear_1 : decode cX10_tear 1 = .ok (.iload_n 1, 1) := by decide +kernel
theorem dX10_tear_2 : decode cX10_tear 2 = .ok (.invokevirtual 102, 3) := by decide +kernel
theorem dX10_tear_5 : decode cX10_tear 5 = .ok (.istore_n 2, 1) := by decide +kernel
theorem dX10_tear_6 : decode cX10_tear 6 = .ok (.iload_n 2, 1) := by decide +kernel
theorem dX10_tear_7 : decode cX10_tear 7 = .ok (.ifCond .eq 5, 3) := by decide +kernel
theorem dX10_tear_10 : decode cX10_tear 10 = .ok (.iload_n 2, 1) := by decide +kernel
theorem dX10_tear_11 : decode cX10_tear 11 = .ok (.ireturn, 1) := by decide +kernel
theorem dX10_tear_12 : decode cX10_tear 12 = .ok (.aload_n 0, 1) := by decide +kernel
theorem dX10_tear_13 : decode cX10_tear 13 = .ok (.getfield 14, 3) := by decide +kernel
theorem dX10_tear_16 : decode cX10_tear 16 = .ok (.iload_n 1, 1) := by decide +kernel
theorem dX10_tear_17 : decode cX10_tear 17 = .ok (.iconst (-1), 1) := by decide +kernel
theorem dX10_tear_18 : decode cX10_tear 18 = .ok (.iastore, 1) := by decide +kernel
theorem dX10_tear_19 : decode cX10_tear 19 = .ok (.iconst 1, 1) := by decide +kernel
theorem dX10_tear_20 : decode cX10_tear 20 = .ok (.ireturn, 1) := by decide +kernel
theorem dX10_copy_0 : decode cX10_copy 0 = .ok (.aload_n 0, 1) := by decide +kernel
theorem dX10_copy_1 : decode cX10_copy 1 = .ok (.iload_n 1, 1) := by decide +kernel
theorem dX10_copy_2 : decode cX10_copy 2 = .ok (.invokevirtual 87, 3) := by decide +kernel
theorem dX10_copy_5 : decode cX10_copy 5 = .ok (.ifCond .eq 11, 3) := by decide +kernel
theorem dX10_copy_8 : decode cX10_copy 8 = .ok (.aload_n 0, 1) := by decide +kernel
theorem dX10_copy_9 : decode cX10_copy 9 = .ok (.iload_n 3, 1) := by decide +kernel
theorem dX10_copy_10 : decode cX10_copy 10 = .ok (.invokevirtual 87, 3) := by decide +kernel
theorem dX10_copy_13 : decode cX10_copy 13 = .ok (.ifCond .ne 5, 3) := by decide +kernel
theorem dX10_copy_16 : decode cX10_copy 16 = .ok (.iconst (-1), 1) := by decide +kernel
theorem dX10_copy_17 : decode cX10_copy 17 = .ok (.ireturn, 1) := by decide +kernel
theorem dX10_copy_18 : decode cX10_copy 18 = .ok (.iload 5, 2) := by decide +kernel
theorem dX10_copy_20 : decode cX10_copy 20 = .ok (.ifCond .ge 9, 3) := by decide +kernel
theorem dX10_copy_23 : decode cX10_copy 23 = .ok (.aload_n 0, 1) := by decide +kernel
theorem dX10_copy_24 : decode cX10_copy 24 = .ok (.iconst 5, 1) := by decide +kernel
theorem dX10_copy_25 : decode cX10_copy 25 = .ok (.invokevirtual 91, 3) := by decide +kernel
theorem dX10_copy_28 : decode cX10_copy 28 = .ok (.ireturn, 1) := by decide +kernel
theorem dX10_copy_29 : decode cX10_copy 29 = .ok (.aload_n 0, 1) := by decide +kernel
theorem dX10_copy_30 : decode cX10_copy 30 = .ok (.getfield 14, 3) := by decide +kernel
theorem dX10_copy_33 : decode cX10_copy 33 = .ok (.iload_n 1, 1) := by decide +kernel
theorem dX10_copy_34 : decode cX10_copy 34 = .ok (.iaload, 1) := by decide +kernel
theorem dX10_copy_35 : decode cX10_copy 35 = .ok (.ifCond .lt 12, 3) := by decide +kernel
theorem dX10_copy_38 : decode cX10_copy 38 = .ok (.aload_n 0, 1) := by decide +kernel
theorem dX10_copy_39 : decode cX10_copy 39 = .ok (.getfield 14, 3) := by decide +kernel
theorem dX10_copy_42 : decode cX10_copy 42 = .ok (.iload_n 3, 1) := by decide +kernel
theorem dX10_copy_43 : decode cX10_copy 43 = .ok (.iaload, 1) := by decide +kernel
theorem dX10_copy_44 : decode cX10_copy 44 = .ok (.ifCond .ge 9, 3) := by decide +kernel
theorem dX10_copy_47 : decode cX10_copy 47 = .ok (.aload_n 0, 1) := by decide +kernel
theorem dX10_copy_48 : decode cX10_copy 48 = .ok (.iconst 1, 1) := by decide +kernel
theorem dX10_copy_49 : decode cX10_copy 49 = .ok (.invokevirtual 91, 3) := by decide +kernel
theorem dX10_copy_52 : decode cX10_copy 52 = .ok (.ireturn, 1) := by decide +kernel
theorem dX10_copy_53 : decode cX10_copy 53 = .ok (.aload_n 0, 1) := by decide +kernel
theorem dX10_copy_54 : decode cX10_copy 54 = .ok (.iload_n 1, 1) := by decide +kernel
theorem dX10_copy_55 : decode cX10_copy 55 = .ok (.iload_n 2, 1) := by decide +kernel
theorem dX10_copy_56 : decode cX10_copy 56 = .ok (.iload 5, 2) := by decide +kernel
theorem dX10_copy_58 : decode cX10_copy 58 = .ok (.invokevirtual 105, 3) := by decide +kernel
theorem dX10_copy_61 : decode cX10_copy 61 = .ok (.ifCond .eq 15, 3) := by decide +kernel
theorem dX10_copy_64 : decode cX10_copy 64 = .ok (.aload_n 0, 1) := by decide +kernel
theorem dX10_copy_65 : decode cX10_copy 65 = .ok (.iload_n 3, 1) := by decide +kernel
theorem dX10_copy_66 : decode cX10_copy 66 = .ok (.iload 4, 2) := by decide +kernel
theorem dX10_copy_68 : decode cX10_copy 68 = .ok (.iload 5, 2) := by decide +kernel
theorem dX10_copy_70 : decode cX10_copy 70 = .ok (.invokevirtual 105, 3) := by decide +kernel
theorem dX10_copy_73 : decode cX10_copy 73 = .ok (.ifCond .ne 9, 3) := by decide +kernel
theorem dX10_copy_76 : decode cX10_copy 76 = .ok (.aload_n 0, 1) := by decide +kernel
theorem dX10_copy_77 : decode cX10_copy 77 = .ok (.iconst 2, 1) := by decide +kernel
theorem dX10_copy_78 : decode cX10_copy 78 = .ok (.invokevirtual 91, 3) := by decide +kernel
theorem dX10_copy_81 : decode cX10_copy 81 = .ok (.ireturn, 1) := by decide +kernel
theorem dX10_copy_82 : decode cX10_copy 82 = .ok (.aload_n 0, 1) := by decide +kernel
theorem dX10_copy_83 : decode cX10_copy 83 = .ok (.getfield 11, 3) := by decide +kernel
theorem dX10_copy_86 : decode cX10_copy 86 = .ok (.iload_n 1, 1) := by decide +kernel
theorem dX10_copy_87 : decode cX10_copy 87 = .ok (.aaload, 1) := by decide +kernel
theorem dX10_copy_88 : decode cX10_copy 88 = .ok (.iload_n 2, 1) := by decide +kernel
theorem dX10_copy_89 : decode cX10_copy 89 = .ok (.aload_n 0, 1) := by decide +kernel
theorem dX10_copy_90 : decode cX10_copy 90 = .ok (.getfield 11, 3) := by decide +kernel
theorem dX10_copy_93 : decode cX10_copy 93 = .ok (.iload_n 3, 1) := by decide +kernel
theorem dX10_copy_94 : decode cX10_copy 94 = .ok (.aaload, 1) := by decide +kernel
theorem dX10_copy_95 : decode cX10_copy 95 = .ok (.iload 4, 2) := by decide +kernel
theorem dX10_copy_97 : decode cX10_copy 97 = .ok (.iload 5, 2) := by decide +kernel
theorem dX10_copy_99 : decode cX10_copy 99 = .ok (.invokestatic 109, 3) := by decide +kernel
theorem dX10_copy_102 : decode cX10_copy 102 = .ok (.iconst 1, 1) := by decide +kernel
theorem dX10_copy_103 : decode cX10_copy 103 = .ok (.ireturn, 1) := by decide +kernel
theorem dX10_mean_0 : decode cX10_mean 0 = .ok (.aload_n 0, 1) := by decide +kernel
theorem dX10_mean_1 : decode cX10_mean 1 = .ok (.iload_n 1, 1) := by decide +kernel
theorem dX10_mean_2 : decode cX10_mean 2 = .ok (.invokevirtual 102, 3) := by decide +kernel
theorem dX10_mean_5 : decode cX10_mean 5 = .ok (.istore_n 2, 1) := by decide +kernel
theorem dX10_mean_6 : decode cX10_mean 6 = .ok (.iload_n 2, 1) := by decide +kernel
theorem dX10_mean_7 : decode cX10_mean 7 = .ok (.ifCond .eq 5, 3) := by decide +kernel
theorem dX10_mean_10 : decode cX10_mean 10 = .ok (.iload_n 2, 1) := by decide +kernel
theorem dX10_mean_11 : decode cX10_mean 11 = .ok (.ireturn, 1) := by decide +kernel
theorem dX10_mean_12 : decode cX10_mean 12 = .ok (.aload_n 0, 1) := by decide +kernel
theorem dX10_mean_13 : decode cX10_mean 13 = .ok (.getfield 14, 3) := by decide +kernel
theorem dX10_mean_16 : decode cX10_mean 16 = .ok (.iload_n 1, 1) := by decide +kernel
theorem dX10_mean_17 : decode cX10_mean 17 = .ok (.iaload, 1) := by decide +kernel
theorem dX10_mean_18 : decode cX10_mean 18 = .ok (.istore_n 3, 1) := by decide +kernel
theorem dX10_mean_19 : decode cX10_mean 19 = .ok (.iload_n 3, 1) := by decide +kernel
theorem dX10_mean_20 : decode cX10_mean 20 = .ok (.ifCond .gt 9, 3) := by decide +kernel
theorem dX10_mean_23 : decode cX10_mean 23 = .ok (.aload_n 0, 1) := by decide +kernel
theorem dX10_mean_24 : decode cX10_mean 24 = .ok (.iconst 4, 1) := by decide +kernel
theorem dX10_mean_25 : decode cX10_mean 25 = .ok (.invokevirtual 91, 3) := by decide +kernel
theorem dX10_mean_28 : decode cX10_mean 28 = .ok (.ireturn, 1) := by decide +kernel
theorem dX10_mean_29 : decode cX10_mean 29 = .ok (.lconst 0, 1) := by decide +kernel
theorem dX10_mean_30 : decode cX10_mean 30 = .ok (.lstore 4, 2) := by decide +kernel
theorem dX10_mean_32 : decode cX10_mean 32 = .ok (.iconst 0, 1) := by decide +kernel
theorem dX10_mean_33 : decode cX10_mean 33 = .ok (.istore 6, 2) := by decide +kernel
theorem dX10_mean_35 : decode cX10_mean 35 = .ok (.iload 6, 2) := by decide +kernel
theorem dX10_mean_37 : decode cX10_mean 37 = .ok (.iload_n 3, 1) := by decide +kernel
theorem dX10_mean_38 : decode cX10_mean 38 = .ok (.if_icmp .ge 24, 3) := by decide +kernel
theorem dX10_mean_41 : decode cX10_mean 41 = .ok (.lload 4, 2) := by decide +kernel
theorem dX10_mean_43 : decode cX10_mean 43 = .ok (.aload_n 0, 1) := by decide +kernel
theorem dX10_mean_44 : decode cX10_mean 44 = .ok (.getfield 11, 3) := by decide +kernel
theorem dX10_mean_47 : decode cX10_mean 47 = .ok (.iload_n 1, 1) := by decide +kernel
theorem dX10_mean_48 : decode cX10_mean 48 = .ok (.aaload, 1) := by decide +kernel
theorem dX10_mean_49 : decode cX10_mean 49 = .ok (.iload 6, 2) := by decide +kernel
theorem dX10_mean_51 : decode cX10_mean 51 = .ok (.iaload, 1) := by decide +kernel
theorem dX10_mean_52 : decode cX10_mean 52 = .ok (.i2l, 1) := by decide +kernel
theorem dX10_mean_53 : decode cX10_mean 53 = .ok (.ladd, 1) := by decide +kernel
theorem dX10_mean_54 : decode cX10_mean 54 = .ok (.lstore 4, 2) := by decide +kernel
theorem dX10_mean_56 : decode cX10_mean 56 = .ok (.iinc 6 1, 3) := by decide +kernel
theorem dX10_mean_59 : decode cX10_mean 59 = .ok (.goto (-24), 3) := by decide +kernel
theorem dX10_mean_62 : decode cX10_mean 62 = .ok (.aload_n 0, 1) := by decide +kernel
theorem dX10_mean_63 : decode cX10_mean 63 = .ok (.lload 4, 2) := by decide +kernel
theorem dX10_mean_65 : decode cX10_mean 65 = .ok (.iload_n 3, 1) := by decide +kernel
theorem dX10_mean_66 : decode cX10_mean 66 = .ok (.i2l, 1) := by decide +kernel
theorem dX10_mean_67 : decode cX10_mean 67 = .ok (.ldiv, 1) := by decide +kernel
theorem dX10_mean_68 : decode cX10_mean 68 = .ok (.l2i, 1) := by decide +kernel
theorem dX10_mean_69 : decode cX10_mean 69 = .ok (.putfield 99, 3) := by decide +kernel
theorem dX10_mean_72 : decode cX10_mean 72 = .ok (.iconst 1, 1) := by decide +kernel
theorem dX10_mean_73 : decode cX10_mean 73 = .ok (.ireturn, 1) := by decide +kernel
theorem dX10_text_0 : decode cX10_text 0 = .ok (.aload_n 0, 1) := by decide +kernel
theorem dX10_text_1 : decode cX10_text 1 = .ok (.iload_n 1, 1) := by decide +kernel
theorem dX10_text_2 : decode cX10_text 2 = .ok (.invokevirtual 115, 3) := by decide +kernel
theorem dX10_text_5 : decode cX10_text 5 = .ok (.ifCond .eq 9, 3) := by decide +kernel
theorem dX10_text_8 : decode cX10_text 8 = .ok (.iload_n 2, 1) := by decide +kernel
theorem dX10_text_9 : decode cX10_text 9 = .ok (.bipush 60, 2) := by decide +kernel
theorem dX10_text_11 : decode cX10_text 11 = .ok (.if_icmp .le 5, 3) := by decide +kernel
theorem dX10_text_14 : decode cX10_text 14 = .ok (.iconst (-1), 1) := by decide +kernel
theorem dX10_text_15 : decode cX10_text 15 = .ok (.ireturn, 1) := by decide +kernel
theorem dX10_text_16 : decode cX10_text 16 = .ok (.iload_n 2, 1) := by decide +kernel
theorem dX10_text_17 : decode cX10_text 17 = .ok (.ifCond .ge 9, 3) := by decide +kernel
theorem dX10_text_20 : decode cX10_text 20 = .ok (.aload_n 0, 1) := by decide +kernel
theorem dX10_text_21 : decode cX10_text 21 = .ok (.iconst 5, 1) := by decide +kernel
theorem dX10_text_22 : decode cX10_text 22 = .ok (.invokevirtual 91, 3) := by decide +kernel
theorem dX10_text_25 : decode cX10_text 25 = .ok (.ireturn, 1) := by decide +kernel
theorem dX10_text_26 : decode cX10_text 26 = .ok (.aload_n 0, 1) := by decide +kernel
theorem dX10_text_27 : decode cX10_text 27 = .ok (.getfield 20, 3) := by decide +kernel
theorem dX10_text_30 : decode cX10_text 30 = .ok (.iload_n 1, 1) := by decide +kernel
theorem dX10_text_31 : decode cX10_text 31 = .ok (.aaload, 1) := by decide +kernel
theorem dX10_text_32 : decode cX10_text 32 = .ok (.bipush 32, 2) := by decide +kernel
theorem dX10_text_34 : decode cX10_text 34 = .ok (.invokestatic 118, 3) := by decide +kernel
theorem dX10_text_37 : decode cX10_text 37 = .ok (.aload_n 0, 1) := by decide +kernel
theorem dX10_text_38 : decode cX10_text 38 = .ok (.getfield 23, 3) := by decide +kernel
theorem dX10_text_41 : decode cX10_text 41 = .ok (.iload_n 1, 1) := by decide +kernel
theorem dX10_text_42 : decode cX10_text 42 = .ok (.iload_n 2, 1) := by decide +kernel
theorem dX10_text_43 : decode cX10_text 43 = .ok (.iastore, 1) := by decide +kernel
theorem dX10_text_44 : decode cX10_text 44 = .ok (.iload_n 2, 1) := by decide +kernel
theorem dX10_text_45 : decode cX10_text 45 = .ok (.ireturn, 1) := by decide +kernel
theorem dX10_put_0 : decode cX10_put 0 = .ok (.aload_n 0, 1) := by decide +kernel
theorem dX10_put_1 : decode cX10_put 1 = .ok (.iload_n 1, 1) := by decide +kernel
theorem dX10_put_2 : decode cX10_put 2 = .ok (.invokevirtual 121, 3) := by decide +kernel
theorem dX10_put_5 : decode cX10_put 5 = .ok (.istore 4, 2) := by decide +kernel
theorem dX10_put_7 : decode cX10_put 7 = .ok (.iload 4, 2) := by decide +kernel
theorem dX10_put_9 : decode cX10_put 9 = .ok (.ifCond .eq 6, 3) := by decide +kernel
theorem dX10_put_12 : decode cX10_put 12 = .ok (.iload 4, 2) := by decide +kernel
theorem dX10_put_14 : decode cX10_put 14 = .ok (.ireturn, 1) := by decide +kernel
theorem dX10_put_15 : decode cX10_put 15 = .ok (.iload_n 2, 1) := by decide +kernel
theorem dX10_put_16 : decode cX10_put 16 = .ok (.ifCond .lt 13, 3) := by decide +kernel
theorem dX10_put_19 : decode cX10_put 19 = .ok (.iload_n 2, 1) := by decide +kernel
theorem dX10_put_20 : decode cX10_put 20 = .ok (.aload_n 0, 1) := by decide +kernel
theorem dX10_put_21 : decode cX10_put 21 = .ok (.getfield 23, 3) := by decide +kernel
theorem dX10_put_24 : decode cX10_put 24 = .ok (.iload_n 1, 1) := by decide +kernel
theorem dX10_put_25 : decode cX10_put 25 = .ok (.iaload, 1) := by decide +kernel
theorem dX10_put_26 : decode cX10_put 26 = .ok (.if_icmp .lt 9, 3) := by decide +kernel
theorem dX10_put_29 : decode cX10_put 29 = .ok (.aload_n 0, 1) := by decide +kernel
theorem dX10_put_30 : decode cX10_put 30 = .ok (.iconst 2, 1) := by decide +kernel
theorem dX10_put_31 : decode cX10_put 31 = .ok (.invokevirtual 91, 3) := by decide +kernel
theorem dX10_put_34 : decode cX10_put 34 = .ok (.ireturn, 1) := by decide +kernel
theorem dX10_put_35 : decode cX10_put 35 = .ok (.aload_n 0, 1) := by decide +kernel
theorem dX10_put_36 : decode cX10_put 36 = .ok (.getfield 20, 3) := by decide +kernel
theorem dX10_put_39 : decode cX10_put 39 = .ok (.iload_n 1, 1) := by decide +kernel
theorem dX10_put_40 : decode cX10_put 40 = .ok (.aaload, 1) := by decide +kernel
theorem dX10_put_41 : decode cX10_put 41 = .ok (.iload_n 2, 1) := by decide +kernel
theorem dX10_put_42 : decode cX10_put 42 = .ok (.baload, 1) := by decide +kernel
theorem dX10_put_43 : decode cX10_put 43 = .ok (.istore 5, 2) := by decide +kernel
theorem dX10_put_45 : decode cX10_put 45 = .ok (.aload_n 0, 1) := by decide +kernel
theorem dX10_put_46 : decode cX10_put 46 = .ok (.getfield 20, 3) := by decide +kernel
theorem dX10_put_49 : decode cX10_put 49 = .ok (.iload_n 1, 1) := by decide +kernel
theorem dX10_put_50 : decode cX10_put 50 = .ok (.aaload, 1) := by decide +kernel
theorem dX10_put_51 : decode cX10_put 51 = .ok (.iload_n 2, 1) := by decide +kernel
theorem dX10_put_52 : decode cX10_put 52 = .ok (.iload_n 3, 1) := by decide +kernel
theorem dX10_put_53 : decode cX10_put 53 = .ok (.i2b, 1) := by decide +kernel
theorem dX10_put_54 : decode cX10_put 54 = .ok (.bastore, 1) := by decide +kernel
theorem dX10_put_55 : decode cX10_put 55 = .ok (.iload 5, 2) := by decide +kernel
theorem dX10_put_57 : decode cX10_put 57 = .ok (.sipush 1000, 3) := by decide +kernel
theorem dX10_put_60 : decode cX10_put 60 = .ok (.iadd, 1) := by decide +kernel
theorem dX10_put_61 : decode cX10_put 61 = .ok (.ireturn, 1) := by decide +kernel
theorem dX10_fault_0 : decode cX10_fault 0 = .ok (.aload_n 0, 1) := by decide +kernel
theorem dX10_fault_1 : decode cX10_fault 1 = .ok (.iload_n 1, 1) := by decide +kernel
theorem dX10_fault_2 : decode cX10_fault 2 = .ok (.invokevirtual 121, 3) := by decide +kernel
theorem dX10_fault_5 : decode cX10_fault 5 = .ok (.istore_n 2, 1) := by decide +kernel
theorem dX10_fault_6 : decode cX10_fault 6 = .ok (.iload_n 2, 1) := by decide +kernel
theorem dX10_fault_7 : decode cX10_fault 7 = .ok (.ifCond .eq 5, 3) := by decide +kernel
theorem dX10_fault_10 : decode cX10_fault 10 = .ok (.iload_n 2, 1) := by decide +kernel
theorem dX10_fault_11 : decode cX10_fault 11 = .ok (.ireturn, 1) := by decide +kernel
theorem dX10_fault_12 : decode cX10_fault 12 = .ok (.aload_n 0, 1) := by decide +kernel
theorem dX10_fault_13 : decode cX10_fault 13 = .ok (.getfield 29, 3) := by decide +kernel
theorem dX10_fault_16 : decode cX10_fault 16 = .ok (.aload_n 0, 1) := by decide +kernel
theorem dX10_fault_17 : decode cX10_fault 17 = .ok (.getfield 20, 3) := by decide +kernel
theorem dX10_fault_20 : decode cX10_fault 20 = .ok (.iload_n 1, 1) := by decide +kernel
theorem dX10_fault_21 : decode cX10_fault 21 = .ok (.aaload, 1) := by decide +kernel
theorem dX10_fault_22 : decode cX10_fault 22 = .ok (.aload_n 0, 1) := by decide +kernel
theorem dX10_fault_23 : decode cX10_fault 23 = .ok (.getfield 23, 3) := by decide +kernel
theorem dX10_fault_26 : decode cX10_fault 26 = .ok (.iload_n 1, 1) := by decide +kernel
theorem dX10_fault_27 : decode cX10_fault 27 = .ok (.iaload, 1) := by decide +kernel
theorem dX10_fault_28 : decode cX10_fault 28 = .ok (.invokevirtual 124, 3) := by decide +kernel
theorem dX10_fault_31 : decode cX10_fault 31 = .ok (.ireturn, 1) := by decide +kernel
theorem dX10_hall_0 : decode cX10_hall 0 = .ok (.aload_n 0, 1) := by decide +kernel
theorem dX10_hall_1 : decode cX10_hall 1 = .ok (.iload_n 1, 1) := by decide +kernel
theorem dX10_hall_2 : decode cX10_hall 2 = .ok (.invokevirtual 121, 3) := by decide +kernel
theorem dX10_hall_5 : decode cX10_hall 5 = .ok (.istore_n 2, 1) := by decide +kernel
theorem dX10_hall_6 : decode cX10_hall 6 = .ok (.iload_n 2, 1) := by decide +kernel
theorem dX10_hall_7 : decode cX10_hall 7 = .ok (.ifCond .eq 5, 3) := by decide +kernel
theorem dX10_hall_10 : decode cX10_hall 10 = .ok (.iload_n 2, 1) := by decide +kernel
theorem dX10_hall_11 : decode cX10_hall 11 = .ok (.ireturn, 1) := by decide +kernel
theorem dX10_hall_12 : decode cX10_hall 12 = .ok (.aload_n 0, 1) := by decide +kernel
theorem dX10_hall_13 : decode cX10_hall 13 = .ok (.getfield 29, 3) := by decide +kernel
theorem dX10_hall_16 : decode cX10_hall 16 = .ok (.aload_n 0, 1) := by decide +kernel
theorem dX10_hall_17 : decode cX10_hall 17 = .ok (.getfield 20, 3) := by decide +kernel
theorem dX10_hall_20 : decode cX10_hall 20 = .ok (.iload_n 1, 1) := by decide +kernel
theorem dX10_hall_21 : decode cX10_hall 21 = .ok (.aaload, 1) := by decide +kernel
theorem dX10_hall_22 : decode cX10_hall 22 = .ok (.aload_n 0, 1) := by decide +kernel
theorem dX10_hall_23 : decode cX10_hall 23 = .ok (.getfield 23, 3) := by decide +kernel
theorem dX10_hall_26 : decode cX10_hall 26 = .ok (.iload_n 1, 1) := by decide +kernel
theorem dX10_hall_27 : decode cX10_hall 27 = .ok (.iaload, 1) := by decide +kernel
theorem dX10_hall_28 : decode cX10_hall 28 = .ok (.invokevirtual 124, 3) := by decide +kernel
theorem dX10_hall_31 : decode cX10_hall 31 = .ok (.bipush (-9), 2) := by decide +kernel
theorem dX10_hall_33 : decode cX10_hall 33 = .ok (.if_icmp .eq 6, 3) := by decide +kernel
theorem dX10_hall_36 : decode cX10_hall 36 = .ok (.bipush (-4), 2) := by decide +kernel
theorem dX10_hall_38 : decode cX10_hall 38 = .ok (.ireturn, 1) := by decide +kernel
theorem dX10_hall_39 : decode cX10_hall 39 = .ok (.aload_n 0, 1) := by decide +kernel
theorem dX10_hall_40 : decode cX10_hall 40 = .ok (.getfield 36, 3) := by decide +kernel
theorem dX10_hall_43 : decode cX10_hall 43 = .ok (.aload_n 0, 1) := by decide +kernel
theorem dX10_hall_44 : decode cX10_hall 44 = .ok (.getfield 29, 3) := by decide +kernel
theorem dX10_hall_47 : decode cX10_hall 47 = .ok (.invokevirtual 128, 3) := by decide +kernel
theorem dX10_hall_50 : decode cX10_hall 50 = .ok (.aload_n 0, 1) := by decide +kernel
theorem dX10_hall_51 : decode cX10_hall 51 = .ok (.getfield 52, 3) := by decide +kernel
theorem dX10_hall_54 : decode cX10_hall 54 = .ok (.iconst 0, 1) := by decide +kernel
theorem dX10_hall_55 : decode cX10_hall 55 = .ok (.putfield 83, 3) := by decide +kernel
theorem dX10_hall_58 : decode cX10_hall 58 = .ok (.iconst 0, 1) := by decide +kernel
theorem dX10_hall_59 : decode cX10_hall 59 = .ok (.istore_n 3, 1) := by decide +kernel
theorem dX10_hall_60 : decode cX10_hall 60 = .ok (.iload_n 3, 1) := by decide +kernel
theorem dX10_hall_61 : decode cX10_hall 61 = .ok (.iconst 3, 1) := by decide +kernel
theorem dX10_hall_62 : decode cX10_hall 62 = .ok (.if_icmp .ge 19, 3) := by decide +kernel
theorem dX10_hall_65 : decode cX10_hall 65 = .ok (.aload_n 0, 1) := by decide +kernel
theorem dX10_hall_66 : decode cX10_hall 66 = .ok (.getfield 56, 3) := by decide +kernel
theorem dX10_hall_69 : decode cX10_hall 69 = .ok (.iload_n 3, 1) := by decide +kernel
theorem dX10_hall_70 : decode cX10_hall 70 = .ok (.aaload, 1) := by decide +kernel
theorem dX10_hall_71 : decode cX10_hall 71 = .ok (.iconst (-1), 1) := by decide +kernel
theorem dX10_hall_72 : decode cX10_hall 72 = .ok (.putfield 83, 3) := by decide +kernel
theorem dX10_hall_75 : decode cX10_hall 75 = .ok (.iinc 3 1, 3) := by decide +kernel
theorem dX10_hall_78 : decode cX10_hall 78 = .ok (.goto (-18), 3) := by decide +kernel
theorem dX10_hall_81 : decode cX10_hall 81 = .ok (.aload_n 0, 1) := by decide +kernel
theorem dX10_hall_82 : decode cX10_hall 82 = .ok (.getfield 45, 3) := by decide +kernel
theorem dX10_hall_85 : decode cX10_hall 85 = .ok (.invokevirtual 132, 3) := by decide +kernel
theorem dX10_hall_88 : decode cX10_hall 88 = .ok (.aload_n 0, 1) := by decide +kernel
theorem dX10_hall_89 : decode cX10_hall 89 = .ok (.getfield 36, 3) := by decide +kernel
theorem dX10_hall_92 : decode cX10_hall 92 = .ok (.getfield 135, 3) := by decide +kernel
theorem dX10_hall_95 : decode cX10_hall 95 = .ok (.ireturn, 1) := by decide +kernel
theorem dX10_player_0 : decode cX10_player 0 = .ok (.aload_n 0, 1) := by decide +kernel
theorem dX10_player_1 : decode cX10_player 1 = .ok (.iload_n 1, 1) := by decide +kernel
theorem dX10_player_2 : decode cX10_player 2 = .ok (.invokevirtual 138, 3) := by decide +kernel
theorem dX10_player_5 : decode cX10_player 5 = .ok (.ifCond .eq 12, 3) := by decide +kernel
theorem dX10_player_8 : decode cX10_player 8 = .ok (.iload_n 2, 1) := by decide +kernel
theorem dX10_player_9 : decode cX10_player 9 = .ok (.ifCond .lt 8, 3) := by decide +kernel
theorem dX10_player_12 : decode cX10_player 12 = .ok (.iload_n 2, 1) := by decide +kernel
theorem dX10_player_13 : decode cX10_player 13 = .ok (.iconst 4, 1) := by decide +kernel
theorem dX10_player_14 : decode cX10_player 14 = .ok (.if_icmp .le 5, 3) := by decide +kernel
theorem dX10_player_17 : decode cX10_player 17 = .ok (.iconst (-1), 1) := by decide +kernel
theorem dX10_player_18 : decode cX10_player 18 = .ok (.ireturn, 1) := by decide +kernel
theorem dX10_player_19 : decode cX10_player 19 = .ok (.aload_n 0, 1) := by decide +kernel
theorem dX10_player_20 : decode cX10_player 20 = .ok (.aload_n 0, 1) := by decide +kernel
theorem dX10_player_21 : decode cX10_player 21 = .ok (.iload_n 1, 1) := by decide +kernel
theorem dX10_player_22 : decode cX10_player 22 = .ok (.iload_n 2, 1) := by decide +kernel
theorem dX10_player_23 : decode cX10_player 23 = .ok (.invokevirtual 141, 3) := by decide +kernel
theorem dX10_player_26 : decode cX10_player 26 = .ok (.putfield 99, 3) := by decide +kernel
theorem dX10_player_29 : decode cX10_player 29 = .ok (.iconst 1, 1) := by decide +kernel
theorem dX10_player_30 : decode cX10_player 30 = .ok (.ireturn, 1) := by decide +kernel
theorem dX10_card_0 : decode cX10_card 0 = .ok (.aload_n 0, 1) := by decide +kernel
theorem dX10_card_1 : decode cX10_card 1 = .ok (.iload_n 1, 1) := by decide +kernel
theorem dX10_card_2 : decode cX10_card 2 = .ok (.invokevirtual 138, 3) := by decide +kernel
theorem dX10_card_5 : decode cX10_card 5 = .ok (.ifCond .eq 11, 3) := by decide +kernel
theorem dX10_card_8 : decode cX10_card 8 = .ok (.aload_n 0, 1) := by decide +kernel
theorem dX10_card_9 : decode cX10_card 9 = .ok (.iload_n 2, 1) := by decide +kernel
theorem dX10_card_10 : decode cX10_card 10 = .ok (.invokevirtual 144, 3) := by decide +kernel
theorem dX10_card_13 : decode cX10_card 13 = .ok (.ifCond .ne 5, 3) := by decide +kernel
theorem dX10_card_16 : decode cX10_card 16 = .ok (.iconst (-1), 1) := by decide +kernel
theorem dX10_card_17 : decode cX10_card 17 = .ok (.ireturn, 1) := by decide +kernel
theorem dX10_card_18 : decode cX10_card 18 = .ok (.aload_n 0, 1) := by decide +kernel
theorem dX10_card_19 : decode cX10_card 19 = .ok (.aload_n 0, 1) := by decide +kernel
theorem dX10_card_20 : decode cX10_card 20 = .ok (.getfield 36, 3) := by decide +kernel
theorem dX10_card_23 : decode cX10_card 23 = .ok (.getfield 147, 3) := by decide +kernel
theorem dX10_card_26 : decode cX10_card 26 = .ok (.iload_n 1, 1) := by decide +kernel
theorem dX10_card_27 : decode cX10_card 27 = .ok (.aaload, 1) := by decide +kernel
theorem dX10_card_28 : decode cX10_card 28 = .ok (.iload_n 2, 1) := by decide +kernel
theorem dX10_card_29 : decode cX10_card 29 = .ok (.iaload, 1) := by decide +kernel
theorem dX10_card_30 : decode cX10_card 30 = .ok (.putfield 99, 3) := by decide +kernel
theorem dX10_card_33 : decode cX10_card 33 = .ok (.iconst 1, 1) := by decide +kernel
theorem dX10_card_34 : decode cX10_card 34 = .ok (.ireturn, 1) := by decide +kernel
theorem dX10_mark_0 : decode cX10_mark 0 = .ok (.aload_n 0, 1) := by decide +kernel
theorem dX10_mark_1 : decode cX10_mark 1 = .ok (.iload_n 1, 1) := by decide +kernel
theorem dX10_mark_2 : decode cX10_mark 2 = .ok (.invokevirtual 138, 3) := by decide +kernel
theorem dX10_mark_5 : decode cX10_mark 5 = .ok (.ifCond .eq 13, 3) := by decide +kernel
theorem dX10_mark_8 : decode cX10_mark 8 = .ok (.iload_n 2, 1) := by decide +kernel
theorem dX10_mark_9 : decode cX10_mark 9 = .ok (.iconst 1, 1) := by decide +kernel
theorem dX10_mark_10 : decode cX10_mark 10 = .ok (.if_icmp .lt 8, 3) := by decide +kernel
theorem dX10_mark_13 : decode cX10_mark 13 = .ok (.iload_n 2, 1) := by decide +kernel
theorem dX10_mark_14 : decode cX10_mark 14 = .ok (.iconst 5, 1) := by decide +kernel
theorem dX10_mark_15 : decode cX10_mark 15 = .ok (.if_icmp .le 5, 3) := by decide +kernel
theorem dX10_mark_18 : decode cX10_mark 18 = .ok (.iconst (-1), 1) := by decide +kernel
theorem dX10_mark_19 : decode cX10_mark 19 = .ok (.ireturn, 1) := by decide +kernel
theorem dX10_mark_20 : decode cX10_mark 20 = .ok (.aload_n 0, 1) := by decide +kernel
theorem dX10_mark_21 : decode cX10_mark 21 = .ok (.getfield 36, 3) := by decide +kernel
theorem dX10_mark_24 : decode cX10_mark 24 = .ok (.iload_n 1, 1) := by decide +kernel
theorem dX10_mark_25 : decode cX10_mark 25 = .ok (.invokevirtual 150, 3) := by decide +kernel
theorem dX10_mark_28 : decode cX10_mark 28 = .ok (.astore_n 3, 1) := by decide +kernel
theorem dX10_mark_29 : decode cX10_mark 29 = .ok (.iload_n 2, 1) := by decide +kernel
theorem dX10_mark_30 : decode cX10_mark 30 = .ok (.iconst 1, 1) := by decide +kernel
theorem dX10_mark_31 : decode cX10_mark 31 = .ok (.if_icmp .ne 31, 3) := by decide +kernel
theorem dX10_mark_34 : decode cX10_mark 34 = .ok (.aload_n 3, 1) := by decide +kernel
theorem dX10_mark_35 : decode cX10_mark 35 = .ok (.instanceof 154, 3) := by decide +kernel
theorem dX10_mark_38 : decode cX10_mark 38 = .ok (.ifCond .eq 24, 3) := by decide +kernel
theorem dX10_mark_41 : decode cX10_mark 41 = .ok (.aload_n 3, 1) := by decide +kernel
theorem dX10_mark_42 : decode cX10_mark 42 = .ok (.checkcast 154, 3) := by decide +kernel
theorem dX10_mark_45 : decode cX10_mark 45 = .ok (.astore 4, 2) := by decide +kernel
theorem dX10_mark_47 : decode cX10_mark 47 = .ok (.aload 4, 2) := by decide +kernel
theorem dX10_mark_49 : decode cX10_mark 49 = .ok (.aload_n 0, 1) := by decide +kernel
theorem dX10_mark_50 : decode cX10_mark 50 = .ok (.getfield 45, 3) := by decide +kernel
theorem dX10_mark_53 : decode cX10_mark 53 = .ok (.getfield 156, 3) := by decide +kernel
theorem dX10_mark_56 : decode cX10_mark 56 = .ok (.iload_n 1, 1) := by decide +kernel
theorem dX10_mark_57 : decode cX10_mark 57 = .ok (.iaload, 1) := by decide +kernel
theorem dX10_mark_58 : decode cX10_mark 58 = .ok (.invokevirtual 159, 3) := by decide +kernel
theorem dX10_mark_61 : decode cX10_mark 61 = .ok (.ireturn, 1) := by decide +kernel
theorem dX10_mark_62 : decode cX10_mark 62 = .ok (.iload_n 2, 1) := by decide +kernel
theorem dX10_mark_63 : decode cX10_mark 63 = .ok (.iconst 2, 1) := by decide +kernel
theorem dX10_mark_64 : decode cX10_mark 64 = .ok (.if_icmp .ne 29, 3) := by decide +kernel
theorem dX10_mark_67 : decode cX10_mark 67 = .ok (.aload_n 3, 1) := by decide +kernel
theorem dX10_mark_68 : decode cX10_mark 68 = .ok (.instanceof 162, 3) := by decide +kernel
theorem dX10_mark_71 : decode cX10_mark 71 = .ok (.ifCond .eq 22, 3) := by decide +kernel
theorem dX10_mark_74 : decode cX10_mark 74 = .ok (.aload_n 3, 1) := by decide +kernel
theorem dX10_mark_75 : decode cX10_mark 75 = .ok (.checkcast 162, 3) := by decide +kernel
theorem dX10_mark_78 : decode cX10_mark 78 = .ok (.astore 4, 2) := by decide +kernel
theorem dX10_mark_80 : decode cX10_mark 80 = .ok (.aload 4, 2) := by decide +kernel
theorem dX10_mark_82 : decode cX10_mark 82 = .ok (.aload_n 0, 1) := by decide +kernel
theorem dX10_mark_83 : decode cX10_mark 83 = .ok (.getfield 45, 3) := by decide +kernel
theorem dX10_mark_86 : decode cX10_mark 86 = .ok (.getfield 164, 3) := by decide +kernel
theorem dX10_mark_89 : decode cX10_mark 89 = .ok (.invokevirtual 167, 3) := by decide +kernel
theorem dX10_mark_92 : decode cX10_mark 92 = .ok (.ireturn, 1) := by decide +kernel
theorem dX10_mark_93 : decode cX10_mark 93 = .ok (.iload_n 2, 1) := by decide +kernel
theorem dX10_mark_94 : decode cX10_mark 94 = .ok (.iconst 3, 1) := by decide +kernel
theorem dX10_mark_95 : decode cX10_mark 95 = .ok (.if_icmp .ne 31, 3) := by decide +kernel
theorem dX10_mark_98 : decode cX10_mark 98 = .ok (.aload_n 3, 1) := by decide +kernel
theorem dX10_mark_99 : decode cX10_mark 99 = .ok (.instanceof 170, 3) := by decide +kernel
theorem dX10_mark_102 : decode cX10_mark 102 = .ok (.ifCond .eq 24, 3) := by decide +kernel
theorem dX10_mark_105 : decode cX10_mark 105 = .ok (.aload_n 3, 1) := by decide +kernel
theorem dX10_mark_106 : decode cX10_mark 106 = .ok (.checkcast 170, 3) := by decide +kernel
theorem dX10_mark_109 : decode cX10_mark 109 = .ok (.astore 4, 2) := by decide +kernel
theorem dX10_mark_111 : decode cX10_mark 111 = .ok (.aload 4, 2) := by decide +kernel
theorem dX10_mark_113 : decode cX10_mark 113 = .ok (.aload_n 0, 1) := by decide +kernel
theorem dX10_mark_114 : decode cX10_mark 114 = .ok (.getfield 45, 3) := by decide +kernel
theorem dX10_mark_117 : decode cX10_mark 117 = .ok (.getfield 156, 3) := by decide +kernel
theorem dX10_mark_120 : decode cX10_mark 120 = .ok (.iload_n 1, 1) := by decide +kernel
theorem dX10_mark_121 : decode cX10_mark 121 = .ok (.iaload, 1) := by decide +kernel
theorem dX10_mark_122 : decode cX10_mark 122 = .ok (.invokevirtual 172, 3) := by decide +kernel
theorem dX10_mark_125 : decode cX10_mark 125 = .ok (.ireturn, 1) := by decide +kernel
theorem dX10_mark_126 : decode cX10_mark 126 = .ok (.iload_n 2, 1) := by decide +kernel
theorem dX10_mark_127 : decode cX10_mark 127 = .ok (.iconst 4, 1) := by decide +kernel
theorem dX10_mark_128 : decode cX10_mark 128 = .ok (.if_icmp .ne 18, 3) := by decide +kernel
theorem dX10_mark_131 : decode cX10_mark 131 = .ok (.aload_n 3, 1) := by decide +kernel
theorem dX10_mark_132 : decode cX10_mark 132 = .ok (.instanceof 175, 3) := by decide +kernel
theorem dX10_mark_135 : decode cX10_mark 135 = .ok (.ifCond .eq 11, 3) := by decide +kernel
theorem dX10_mark_138 : decode cX10_mark 138 = .ok (.aload_n 0, 1) := by decide +kernel
theorem dX10_mark_139 : decode cX10_mark 139 = .ok (.getfield 45, 3) := by decide +kernel
theorem dX10_mark_142 : decode cX10_mark 142 = .ok (.getfield 177, 3) := by decide +kernel
theorem dX10_mark_145 : decode cX10_mark 145 = .ok (.ireturn, 1) := by decide +kernel
theorem dX10_mark_146 : decode cX10_mark 146 = .ok (.iload_n 2, 1) := by decide +kernel
theorem dX10_mark_147 : decode cX10_mark 147 = .ok (.iconst 5, 1) := by decide +kernel
theorem dX10_mark_148 : decode cX10_mark 148 = .ok (.if_icmp .ne 31, 3) := by decide +kernel
theorem dX10_mark_151 : decode cX10_mark 151 = .ok (.aload_n 3, 1) := by decide +kernel
theorem dX10_mark_152 : decode cX10_mark 152 = .ok (.instanceof 180, 3) := by decide +kernel
theorem dX10_mark_155 : decode cX10_mark 155 = .ok (.ifCond .eq 24, 3) := by decide +kernel
theorem dX10_mark_158 : decode cX10_mark 158 = .ok (.aload_n 3, 1) := by decide +kernel
theorem dX10_mark_159 : decode cX10_mark 159 = .ok (.checkcast 180, 3) := by decide +kernel
theorem dX10_mark_162 : decode cX10_mark 162 = .ok (.astore 4, 2) := by decide +kernel
theorem dX10_mark_164 : decode cX10_mark 164 = .ok (.aload 4, 2) := by decide +kernel
theorem dX10_mark_166 : decode cX10_mark 166 = .ok (.aload_n 0, 1) := by decide +kernel
theorem dX10_mark_167 : decode cX10_mark 167 = .ok (.getfield 36, 3) := by decide +kernel
theorem dX10_mark_170 : decode cX10_mark 170 = .ok (.getfield 182, 3) := by decide +kernel
theorem dX10_mark_173 : decode cX10_mark 173 = .ok (.iload_n 1, 1) := by decide +kernel
theorem dX10_mark_174 : decode cX10_mark 174 = .ok (.iaload, 1) := by decide +kernel
theorem dX10_mark_175 : decode cX10_mark 175 = .ok (.invokevirtual 185, 3) := by decide +kernel
theorem dX10_mark_178 : decode cX10_mark 178 = .ok (.ireturn, 1) := by decide +kernel
theorem dX10_mark_179 : decode cX10_mark 179 = .ok (.aload_n 0, 1) := by decide +kernel
theorem dX10_mark_180 : decode cX10_mark 180 = .ok (.iconst 3, 1) := by decide +kernel
theorem dX10_mark_181 : decode cX10_mark 181 = .ok (.invokevirtual 91, 3) := by decide +kernel
theorem dX10_mark_184 : decode cX10_mark 184 = .ok (.ireturn, 1) := by decide +kernel
theorem dX10_call_0 : decode cX10_call 0 = .ok (.aload_n 0, 1) := by decide +kernel
theorem dX10_call_1 : decode cX10_call 1 = .ok (.iload_n 1, 1) := by decide +kernel
theorem dX10_call_2 : decode cX10_call 2 = .ok (.invokevirtual 188, 3) := by decide +kernel
theorem dX10_call_5 : decode cX10_call 5 = .ok (.ifCond .ne 5, 3) := by decide +kernel
theorem dX10_call_8 : decode cX10_call 8 = .ok (.iconst (-1), 1) := by decide +kernel
theorem dX10_call_9 : decode cX10_call 9 = .ok (.ireturn, 1) := by decide +kernel
theorem dX10_call_10 : decode cX10_call 10 = .ok (.aload_n 0, 1) := by decide +kernel
theorem dX10_call_11 : decode cX10_call 11 = .ok (.getfield 36, 3) := by decide +kernel
theorem dX10_call_14 : decode cX10_call 14 = .ok (.getfield 135, 3) := by decide +kernel
theorem dX10_call_17 : decode cX10_call 17 = .ok (.ifCond .eq 14, 3) := by decide +kernel
theorem dX10_call_20 : decode cX10_call 20 = .ok (.aload_n 0, 1) := by decide +kernel
theorem dX10_call_21 : decode cX10_call 21 = .ok (.getfield 45, 3) := by decide +kernel
theorem dX10_call_24 : decode cX10_call 24 = .ok (.iload_n 1, 1) := by decide +kernel
theorem dX10_call_25 : decode cX10_call 25 = .ok (.invokevirtual 191, 3) := by decide +kernel
theorem dX10_call_28 : decode cX10_call 28 = .ok (.ifCond .ne 6, 3) := by decide +kernel
theorem dX10_call_31 : decode cX10_call 31 = .ok (.bipush (-4), 2) := by decide +kernel
theorem dX10_call_33 : decode cX10_call 33 = .ok (.ireturn, 1) := by decide +kernel
theorem dX10_call_34 : decode cX10_call 34 = .ok (.aload_n 0, 1) := by decide +kernel
theorem dX10_call_35 : decode cX10_call 35 = .ok (.getfield 52, 3) := by decide +kernel
theorem dX10_call_38 : decode cX10_call 38 = .ok (.getfield 83, 3) := by decide +kernel
theorem dX10_call_41 : decode cX10_call 41 = .ok (.bipush 40, 2) := by decide +kernel
theorem dX10_call_43 : decode cX10_call 43 = .ok (.if_icmp .lt 6, 3) := by decide +kernel
theorem dX10_call_46 : decode cX10_call 46 = .ok (.bipush (-2), 2) := by decide +kernel
theorem dX10_call_48 : decode cX10_call 48 = .ok (.ireturn, 1) := by decide +kernel
theorem dX10_call_49 : decode cX10_call 49 = .ok (.aload_n 0, 1) := by decide +kernel
theorem dX10_call_50 : decode cX10_call 50 = .ok (.iload_n 1, 1) := by decide +kernel
theorem dX10_call_51 : decode cX10_call 51 = .ok (.invokevirtual 194, 3) := by decide +kernel
theorem dX10_call_54 : decode cX10_call 54 = .ok (.ireturn, 1) := by decide +kernel
theorem dX10_rub_0 : decode cX10_rub 0 = .ok (.aload_n 0, 1) := by decide +kernel
theorem dX10_rub_1 : decode cX10_rub 1 = .ok (.iload_n 1, 1) := by decide +kernel
theorem dX10_rub_2 : decode cX10_rub 2 = .ok (.invokevirtual 138, 3) := by decide +kernel
theorem dX10_rub_5 : decode cX10_rub 5 = .ok (.ifCond .eq 11, 3) := by decide +kernel
theorem dX10_rub_8 : decode cX10_rub 8 = .ok (.aload_n 0, 1) := by decide +kernel
theorem dX10_rub_9 : decode cX10_rub 9 = .ok (.iload_n 2, 1) := by decide +kernel
theorem dX10_rub_10 : decode cX10_rub 10 = .ok (.invokevirtual 144, 3) := by decide +kernel
theorem dX10_rub_13 : decode cX10_rub 13 = .ok (.ifCond .ne 5, 3) := by decide +kernel
theorem dX10_rub_16 : decode cX10_rub 16 = .ok (.iconst (-1), 1) := by decide +kernel
theorem dX10_rub_17 : decode cX10_rub 17 = .ok (.ireturn, 1) := by decide +kernel
theorem dX10_rub_18 : decode cX10_rub 18 = .ok (.aload_n 0, 1) := by decide +kernel
theorem dX10_rub_19 : decode cX10_rub 19 = .ok (.getfield 52, 3) := by decide +kernel
theorem dX10_rub_22 : decode cX10_rub 22 = .ok (.getfield 83, 3) := by decide +kernel
theorem dX10_rub_25 : decode cX10_rub 25 = .ok (.bipush 40, 2) := by decide +kernel
theorem dX10_rub_27 : decode cX10_rub 27 = .ok (.if_icmp .lt 6, 3) := by decide +kernel
theorem dX10_rub_30 : decode cX10_rub 30 = .ok (.bipush (-2), 2) := by decide +kernel
theorem dX10_rub_32 : decode cX10_rub 32 = .ok (.ireturn, 1) := by decide +kernel
theorem dX10_rub_33 : decode cX10_rub 33 = .ok (.aload_n 0, 1) := by decide +kernel
theorem dX10_rub_34 : decode cX10_rub 34 = .ok (.iload_n 1, 1) := by decide +kernel
theorem dX10_rub_35 : decode cX10_rub 35 = .ok (.iload_n 2, 1) := by decide +kernel
theorem dX10_rub_36 : decode cX10_rub 36 = .ok (.invokevirtual 197, 3) := by decide +kernel
theorem dX10_rub_39 : decode cX10_rub 39 = .ok (.aload_n 0, 1) := by decide +kernel
theorem dX10_rub_40 : decode cX10_rub 40 = .ok (.getfield 45, 3) := by decide +kernel
theorem dX10_rub_43 : decode cX10_rub 43 = .ok (.getfield 156, 3) := by decide +kernel
theorem dX10_rub_46 : decode cX10_rub 46 = .ok (.iload_n 1, 1) := by decide +kernel
theorem dX10_rub_47 : decode cX10_rub 47 = .ok (.iaload, 1) := by decide +kernel
theorem dX10_rub_48 : decode cX10_rub 48 = .ok (.ireturn, 1) := by decide +kernel
theorem dX10_undo_0 : decode cX10_undo 0 = .ok (.iload_n 1, 1) := by decide +kernel
theorem dX10_undo_1 : decode cX10_undo 1 = .ok (.ifCond .lt 14, 3) := by decide +kernel
theorem dX10_undo_4 : decode cX10_undo 4 = .ok (.iload_n 1, 1) := by decide +kernel
theorem dX10_undo_5 : decode cX10_undo 5 = .ok (.aload_n 0, 1) := by decide +kernel
theorem dX10_undo_6 : decode cX10_undo 6 = .ok (.getfield 52, 3) := by decide +kernel
theorem dX10_undo_9 : decode cX10_undo 9 = .ok (.getfield 83, 3) := by decide +kernel
theorem dX10_undo_12 : decode cX10_undo 12 = .ok (.if_icmp .le 5, 3) := by decide +kernel
theorem dX10_undo_15 : decode cX10_undo 15 = .ok (.iconst (-1), 1) := by decide +kernel
theorem dX10_undo_16 : decode cX10_undo 16 = .ok (.ireturn, 1) := by decide +kernel
theorem dX10_undo_17 : decode cX10_undo 17 = .ok (.aload_n 0, 1) := by decide +kernel
theorem dX10_undo_18 : decode cX10_undo 18 = .ok (.getfield 52, 3) := by decide +kernel
theorem dX10_undo_21 : decode cX10_undo 21 = .ok (.getfield 83, 3) := by decide +kernel
theorem dX10_undo_24 : decode cX10_undo 24 = .ok (.iload_n 1, 1) := by decide +kernel
theorem dX10_undo_25 : decode cX10_undo 25 = .ok (.isub, 1) := by decide +kernel
theorem dX10_undo_26 : decode cX10_undo 26 = .ok (.istore_n 2, 1) := by decide +kernel
theorem dX10_undo_27 : decode cX10_undo 27 = .ok (.aload_n 0, 1) := by decide +kernel
theorem dX10_undo_28 : decode cX10_undo 28 = .ok (.getfield 52, 3) := by decide +kernel
theorem dX10_undo_31 : decode cX10_undo 31 = .ok (.iload_n 1, 1) := by decide +kernel
theorem dX10_undo_32 : decode cX10_undo 32 = .ok (.putfield 83, 3) := by decide +kernel
theorem dX10_undo_35 : decode cX10_undo 35 = .ok (.aload_n 0, 1) := by decide +kernel
theorem dX10_undo_36 : decode cX10_undo 36 = .ok (.invokevirtual 201, 3) := by decide +kernel
theorem dX10_undo_39 : decode cX10_undo 39 = .ok (.iload_n 2, 1) := by decide +kernel
theorem dX10_undo_40 : decode cX10_undo 40 = .ok (.ireturn, 1) := by decide +kernel
theorem dX10_keep_0 : decode cX10_keep 0 = .ok (.aload_n 0, 1) := by decide +kernel
theorem dX10_keep_1 : decode cX10_keep 1 = .ok (.iload_n 1, 1) := by decide +kernel
theorem dX10_keep_2 : decode cX10_keep 2 = .ok (.invokevirtual 204, 3) := by decide +kernel
theorem dX10_keep_5 : decode cX10_keep 5 = .ok (.ifCond .ne 5, 3) := by decide +kernel
theorem dX10_keep_8 : decode cX10_keep 8 = .ok (.iconst (-1), 1) := by decide +kernel
theorem dX10_keep_9 : decode cX10_keep 9 = .ok (.ireturn, 1) := by decide +kernel
theorem dX10_keep_10 : decode cX10_keep 10 = .ok (.aload_n 0, 1) := by decide +kernel
theorem dX10_keep_11 : decode cX10_keep 11 = .ok (.getfield 36, 3) := by decide +kernel
theorem dX10_keep_14 : decode cX10_keep 14 = .ok (.getfield 135, 3) := by decide +kernel
theorem dX10_keep_17 : decode cX10_keep 17 = .ok (.ifCond .ne 6, 3) := by decide +kernel
theorem dX10_keep_20 : decode cX10_keep 20 = .ok (.bipush (-4), 2) := by decide +kernel
theorem dX10_keep_22 : decode cX10_keep 22 = .ok (.ireturn, 1) := by decide +kernel
theorem dX10_keep_23 : decode cX10_keep 23 = .ok (.aload_n 0, 1) := by decide +kernel
theorem dX10_keep_24 : decode cX10_keep 24 = .ok (.getfield 56, 3) := by decide +kernel
theorem dX10_keep_27 : decode cX10_keep 27 = .ok (.iload_n 1, 1) := by decide +kernel
theorem dX10_keep_28 : decode cX10_keep 28 = .ok (.aaload, 1) := by decide +kernel
theorem dX10_keep_29 : decode cX10_keep 29 = .ok (.aload_n 0, 1) := by decide +kernel
theorem dX10_keep_30 : decode cX10_keep 30 = .ok (.getfield 52, 3) := by decide +kernel
theorem dX10_keep_33 : decode cX10_keep 33 = .ok (.invokevirtual 207, 3) := by decide +kernel
theorem dX10_keep_36 : decode cX10_keep 36 = .ok (.aload_n 0, 1) := by decide +kernel
theorem dX10_keep_37 : decode cX10_keep 37 = .ok (.getfield 52, 3) := by decide +kernel
theorem dX10_keep_40 : decode cX10_keep 40 = .ok (.getfield 83, 3) := by decide +kernel
theorem dX10_keep_43 : decode cX10_keep 43 = .ok (.ireturn, 1) := by decide +kernel
theorem dX10_on_0 : decode cX10_on 0 = .ok (.aload_n 0, 1) := by decide +kernel
theorem dX10_on_1 : decode cX10_on 1 = .ok (.iload_n 1, 1) := by decide +kernel
theorem dX10_on_2 : decode cX10_on 2 = .ok (.invokevirtual 204, 3) := by decide +kernel
theorem dX10_on_5 : decode cX10_on 5 = .ok (.ifCond .ne 5, 3) := by decide +kernel
theorem dX10_on_8 : decode cX10_on 8 = .ok (.iconst (-1), 1) := by decide +kernel
theorem dX10_on_9 : decode cX10_on 9 = .ok (.ireturn, 1) := by decide +kernel
theorem dX10_on_10 : decode cX10_on 10 = .ok (.aload_n 0, 1) := by decide +kernel
theorem dX10_on_11 : decode cX10_on 11 = .ok (.getfield 56, 3) := by decide +kernel
theorem dX10_on_14 : decode cX10_on 14 = .ok (.iload_n 1, 1) := by decide +kernel
theorem dX10_on_15 : decode cX10_on 15 = .ok (.aaload, 1) := by decide +kernel
theorem dX10_on_16 : decode cX10_on 16 = .ok (.getfield 83, 3) := by decide +kernel
theorem dX10_on_19 : decode cX10_on 19 = .ok (.ifCond .ge 9, 3) := by decide +kernel
theorem dX10_on_22 : decode cX10_on 22 = .ok (.aload_n 0, 1) := by decide +kernel
theorem dX10_on_23 : decode cX10_on 23 = .ok (.iconst 1, 1) := by decide +kernel
theorem dX10_on_24 : decode cX10_on 24 = .ok (.invokevirtual 91, 3) := by decide +kernel
theorem dX10_on_27 : decode cX10_on 27 = .ok (.ireturn, 1) := by decide +kernel
theorem dX10_on_28 : decode cX10_on 28 = .ok (.aload_n 0, 1) := by decide +kernel
theorem dX10_on_29 : decode cX10_on 29 = .ok (.getfield 52, 3) := by decide +kernel
theorem dX10_on_32 : decode cX10_on 32 = .ok (.aload_n 0, 1) := by decide +kernel
theorem dX10_on_33 : decode cX10_on 33 = .ok (.getfield 56, 3) := by decide +kernel
theorem dX10_on_36 : decode cX10_on 36 = .ok (.iload_n 1, 1) := by decide +kernel
theorem dX10_on_37 : decode cX10_on 37 = .ok (.aaload, 1) := by decide +kernel
theorem dX10_on_38 : decode cX10_on 38 = .ok (.invokevirtual 207, 3) := by decide +kernel
theorem dX10_on_41 : decode cX10_on 41 = .ok (.aload_n 0, 1) := by decide +kernel
theorem dX10_on_42 : decode cX10_on 42 = .ok (.invokevirtual 201, 3) := by decide +kernel
theorem dX10_on_45 : decode cX10_on 45 = .ok (.aload_n 0, 1) := by decide +kernel
theorem dX10_on_46 : decode cX10_on 46 = .ok (.getfield 52, 3) := by decide +kernel
theorem dX10_on_49 : decode cX10_on 49 = .ok (.getfield 83, 3) := by decide +kernel
theorem dX10_on_52 : decode cX10_on 52 = .ok (.ireturn, 1) := by decide +kernel
theorem dX10_hears_0 : decode cX10_hears 0 = .ok (.aload_n 0, 1) := by decide +kernel
theorem dX10_hears_1 : decode cX10_hears 1 = .ok (.iload_n 1, 1) := by decide +kernel
theorem dX10_hears_2 : decode cX10_hears 2 = .ok (.invokevirtual 138, 3) := by decide +kernel
theorem dX10_hears_5 : decode cX10_hears 5 = .ok (.ifCond .eq 21, 3) := by decide +kernel
theorem dX10_hears_8 : decode cX10_hears 8 = .ok (.aload_n 0, 1) := by decide +kernel
theorem dX10_hears_9 : decode cX10_hears 9 = .ok (.iload_n 2, 1) := by decide +kernel
theorem dX10_hears_10 : decode cX10_hears 10 = .ok (.invokevirtual 188, 3) := by decide +kernel
theorem dX10_hears_13 : decode cX10_hears 13 = .ok (.ifCond .eq 13, 3) := by decide +kernel
theorem dX10_hears_16 : decode cX10_hears 16 = .ok (.iload_n 3, 1) := by decide +kernel
theorem dX10_hears_17 : decode cX10_hears 17 = .ok (.ifCond .lt 9, 3) := by decide +kernel
theorem dX10_hears_20 : decode cX10_hears 20 = .ok (.iload_n 3, 1) := by decide +kernel
theorem dX10_hears_21 : decode cX10_hears 21 = .ok (.bipush 12, 2) := by decide +kernel
theorem dX10_hears_23 : decode cX10_hears 23 = .ok (.if_icmp .le 5, 3) := by decide +kernel
theorem dX10_hears_26 : decode cX10_hears 26 = .ok (.iconst (-1), 1) := by decide +kernel
theorem dX10_hears_27 : decode cX10_hears 27 = .ok (.ireturn, 1) := by decide +kernel
theorem dX10_hears_28 : decode cX10_hears 28 = .ok (.iload_n 3, 1) := by decide +kernel
theorem dX10_hears_29 : decode cX10_hears 29 = .ok (.iload_n 2, 1) := by decide +kernel
theorem dX10_hears_30 : decode cX10_hears 30 = .ok (.if_icmp .eq 15, 3) := by decide +kernel
theorem dX10_hears_33 : decode cX10_hears 33 = .ok (.iload 4, 2) := by decide +kernel
theorem dX10_hears_35 : decode cX10_hears 35 = .ok (.ifCond .lt 10, 3) := by decide +kernel
theorem dX10_hears_38 : decode cX10_hears 38 = .ok (.iload 4, 2) := by decide +kernel
theorem dX10_hears_40 : decode cX10_hears 40 = .ok (.bipush 99, 2) := by decide +kernel
theorem dX10_hears_42 : decode cX10_hears 42 = .ok (.if_icmp .le 5, 3) := by decide +kernel
theorem dX10_hears_45 : decode cX10_hears 45 = .ok (.iconst (-1), 1) := by decide +kernel
theorem dX10_hears_46 : decode cX10_hears 46 = .ok (.ireturn, 1) := by decide +kernel
theorem dX10_hears_47 : decode cX10_hears 47 = .ok (.aload_n 0, 1) := by decide +kernel
theorem dX10_hears_48 : decode cX10_hears 48 = .ok (.getfield 36, 3) := by decide +kernel
theorem dX10_hears_51 : decode cX10_hears 51 = .ok (.iload_n 1, 1) := by decide +kernel
theorem dX10_hears_52 : decode cX10_hears 52 = .ok (.invokevirtual 150, 3) := by decide +kernel
theorem dX10_hears_55 : decode cX10_hears 55 = .ok (.iload_n 2, 1) := by decide +kernel
theorem dX10_hears_56 : decode cX10_hears 56 = .ok (.iload_n 3, 1) := by decide +kernel
theorem dX10_hears_57 : decode cX10_hears 57 = .ok (.iload 4, 2) := by decide +kernel
theorem dX10_hears_59 : decode cX10_hears 59 = .ok (.invokevirtual 211, 3) := by decide +kernel
theorem dX10_hears_62 : decode cX10_hears 62 = .ok (.ireturn, 1) := by decide +kernel
theorem dX10_run_0 : decode cX10_run 0 = .ok (.aload_n 0, 1) := by decide +kernel
theorem dX10_run_1 : decode cX10_run 1 = .ok (.getfield 36, 3) := by decide +kernel
theorem dX10_run_4 : decode cX10_run 4 = .ok (.getfield 135, 3) := by decide +kernel
theorem dX10_run_7 : decode cX10_run 7 = .ok (.ifCond .ne 6, 3) := by decide +kernel
theorem dX10_run_10 : decode cX10_run 10 = .ok (.bipush (-4), 2) := by decide +kernel
theorem dX10_run_12 : decode cX10_run 12 = .ok (.ireturn, 1) := by decide +kernel
theorem dX10_run_13 : decode cX10_run 13 = .ok (.aload_n 0, 1) := by decide +kernel
theorem dX10_run_14 : decode cX10_run 14 = .ok (.iload_n 1, 1) := by decide +kernel
theorem dX10_run_15 : decode cX10_run 15 = .ok (.invokevirtual 102, 3) := by decide +kernel
theorem dX10_run_18 : decode cX10_run 18 = .ok (.istore_n 2, 1) := by decide +kernel
theorem dX10_run_19 : decode cX10_run 19 = .ok (.iload_n 2, 1) := by decide +kernel
theorem dX10_run_20 : decode cX10_run 20 = .ok (.ifCond .eq 5, 3) := by decide +kernel
theorem dX10_run_23 : decode cX10_run 23 = .ok (.iload_n 2, 1) := by decide +kernel
theorem dX10_run_24 : decode cX10_run 24 = .ok (.ireturn, 1) := by decide +kernel
theorem dX10_run_25 : decode cX10_run 25 = .ok (.aload_n 0, 1) := by decide +kernel
theorem dX10_run_26 : decode cX10_run 26 = .ok (.getfield 14, 3) := by decide +kernel
theorem dX10_run_29 : decode cX10_run 29 = .ok (.iload_n 1, 1) := by decide +kernel
theorem dX10_run_30 : decode cX10_run 30 = .ok (.iaload, 1) := by decide +kernel
theorem dX10_run_31 : decode cX10_run 31 = .ok (.istore_n 3, 1) := by decide +kernel
theorem dX10_run_32 : decode cX10_run 32 = .ok (.iload_n 3, 1) := by decide +kernel
theorem dX10_run_33 : decode cX10_run 33 = .ok (.bipush 12, 2) := by decide +kernel
theorem dX10_run_35 : decode cX10_run 35 = .ok (.if_icmp .le 9, 3) := by decide +kernel
theorem dX10_run_38 : decode cX10_run 38 = .ok (.aload_n 0, 1) := by decide +kernel
theorem dX10_run_39 : decode cX10_run 39 = .ok (.iconst 5, 1) := by decide +kernel
theorem dX10_run_40 : decode cX10_run 40 = .ok (.invokevirtual 91, 3) := by decide +kernel
theorem dX10_run_43 : decode cX10_run 43 = .ok (.ireturn, 1) := by decide +kernel
theorem dX10_run_44 : decode cX10_run 44 = .ok (.iconst 0, 1) := by decide +kernel
theorem dX10_run_45 : decode cX10_run 45 = .ok (.istore 4, 2) := by decide +kernel
theorem dX10_run_47 : decode cX10_run 47 = .ok (.iload 4, 2) := by decide +kernel
theorem dX10_run_49 : decode cX10_run 49 = .ok (.iload_n 3, 1) := by decide +kernel
theorem dX10_run_50 : decode cX10_run 50 = .ok (.if_icmp .ge 31, 3) := by decide +kernel
theorem dX10_run_53 : decode cX10_run 53 = .ok (.aload_n 0, 1) := by decide +kernel
theorem dX10_run_54 : decode cX10_run 54 = .ok (.aload_n 0, 1) := by decide +kernel
theorem dX10_run_55 : decode cX10_run 55 = .ok (.getfield 11, 3) := by decide +kernel
theorem dX10_run_58 : decode cX10_run 58 = .ok (.iload_n 1, 1) := by decide +kernel
theorem dX10_run_59 : decode cX10_run 59 = .ok (.aaload, 1) := by decide +kernel
theorem dX10_run_60 : decode cX10_run 60 = .ok (.iload 4, 2) := by decide +kernel
theorem dX10_run_62 : decode cX10_run 62 = .ok (.iaload, 1) := by decide +kernel
theorem dX10_run_63 : decode cX10_run 63 = .ok (.invokevirtual 188, 3) := by decide +kernel
theorem dX10_run_66 : decode cX10_run 66 = .ok (.ifCond .ne 9, 3) := by decide +kernel
theorem dX10_run_69 : decode cX10_run 69 = .ok (.aload_n 0, 1) := by decide +kernel
theorem dX10_run_70 : decode cX10_run 70 = .ok (.iconst 3, 1) := by decide +kernel
theorem dX10_run_71 : decode cX10_run 71 = .ok (.invokevirtual 91, 3) := by decide +kernel
theorem dX10_run_74 : decode cX10_run 74 = .ok (.ireturn, 1) := by decide +kernel
theorem dX10_run_75 : decode cX10_run 75 = .ok (.iinc 4 1, 3) := by decide +kernel
theorem dX10_run_78 : decode cX10_run 78 = .ok (.goto (-31), 3) := by decide +kernel
theorem dX10_run_81 : decode cX10_run 81 = .ok (.aload_n 0, 1) := by decide +kernel
theorem dX10_run_82 : decode cX10_run 82 = .ok (.getfield 60, 3) := by decide +kernel
theorem dX10_run_85 : decode cX10_run 85 = .ok (.iconst 0, 1) := by decide +kernel
theorem dX10_run_86 : decode cX10_run 86 = .ok (.aaload, 1) := by decide +kernel
theorem dX10_run_87 : decode cX10_run 87 = .ok (.astore 4, 2) := by decide +kernel
theorem dX10_run_89 : decode cX10_run 89 = .ok (.aload 4, 2) := by decide +kernel
theorem dX10_run_91 : decode cX10_run 91 = .ok (.aload_n 0, 1) := by decide +kernel
theorem dX10_run_92 : decode cX10_run 92 = .ok (.getfield 45, 3) := by decide +kernel
theorem dX10_run_95 : decode cX10_run 95 = .ok (.invokevirtual 217, 3) := by decide +kernel
theorem dX10_run_98 : decode cX10_run 98 = .ok (.iconst 0, 1) := by decide +kernel
theorem dX10_run_99 : decode cX10_run 99 = .ok (.istore 5, 2) := by decide +kernel
theorem dX10_run_101 : decode cX10_run 101 = .ok (.iload 5, 2) := by decide +kernel
theorem dX10_run_103 : decode cX10_run 103 = .ok (.iload_n 3, 1) := by decide +kernel
theorem dX10_run_104 : decode cX10_run 104 = .ok (.if_icmp .ge 43, 3) := by decide +kernel
theorem dX10_run_107 : decode cX10_run 107 = .ok (.aload 4, 2) := by decide +kernel
theorem dX10_run_109 : decode cX10_run 109 = .ok (.aload_n 0, 1) := by decide +kernel
theorem dX10_run_110 : decode cX10_run 110 = .ok (.getfield 11, 3) := by decide +kernel
theorem dX10_run_113 : decode cX10_run 113 = .ok (.iload_n 1, 1) := by decide +kernel
theorem dX10_run_114 : decode cX10_run 114 = .ok (.aaload, 1) := by decide +kernel
theorem dX10_run_115 : decode cX10_run 115 = .ok (.iload 5, 2) := by decide +kernel
theorem dX10_run_117 : decode cX10_run 117 = .ok (.iaload, 1) := by decide +kernel
theorem dX10_run_118 : decode cX10_run 118 = .ok (.invokevirtual 191, 3) := by decide +kernel
theorem dX10_run_121 : decode cX10_run 121 = .ok (.ifCond .eq 26, 3) := by decide +kernel
theorem dX10_run_124 : decode cX10_run 124 = .ok (.aload 4, 2) := by decide +kernel
theorem dX10_run_126 : decode cX10_run 126 = .ok (.aload_n 0, 1) := by decide +kernel
theorem dX10_run_127 : decode cX10_run 127 = .ok (.getfield 11, 3) := by decide +kernel
theorem dX10_run_130 : decode cX10_run 130 = .ok (.iload_n 1, 1) := by decide +kernel
theorem dX10_run_131 : decode cX10_run 131 = .ok (.aaload, 1) := by decide +kernel
theorem dX10_run_132 : decode cX10_run 132 = .ok (.iload 5, 2) := by decide +kernel
theorem dX10_run_134 : decode cX10_run 134 = .ok (.iaload, 1) := by decide +kernel
theorem dX10_run_135 : decode cX10_run 135 = .ok (.bipush 15, 2) := by decide +kernel
theorem dX10_run_137 : decode cX10_run 137 = .ok (.invokevirtual 220, 3) := by decide +kernel
theorem dX10_run_140 : decode cX10_run 140 = .ok (.pop, 1) := by decide +kernel
theorem dX10_run_141 : decode cX10_run 141 = .ok (.iinc 5 1, 3) := by decide +kernel
theorem dX10_run_144 : decode cX10_run 144 = .ok (.goto (-43), 3) := by decide +kernel
theorem dX10_run_147 : decode cX10_run 147 = .ok (.aload_n 0, 1) := by decide +kernel
theorem dX10_run_148 : decode cX10_run 148 = .ok (.iload 5, 2) := by decide +kernel
theorem dX10_run_150 : decode cX10_run 150 = .ok (.putfield 99, 3) := by decide +kernel
theorem dX10_run_153 : decode cX10_run 153 = .ok (.aload 4, 2) := by decide +kernel
theorem dX10_run_155 : decode cX10_run 155 = .ok (.getfield 223, 3) := by decide +kernel
theorem dX10_run_158 : decode cX10_run 158 = .ok (.ireturn, 1) := by decide +kernel
theorem dX10_safe_0 : decode cX10_safe 0 = .ok (.aload_n 0, 1) := by decide +kernel
theorem dX10_safe_1 : decode cX10_safe 1 = .ok (.getfield 36, 3) := by decide +kernel
theorem dX10_safe_4 : decode cX10_safe 4 = .ok (.getfield 135, 3) := by decide +kernel
theorem dX10_safe_7 : decode cX10_safe 7 = .ok (.ifCond .ne 6, 3) := by decide +kernel
theorem dX10_safe_10 : decode cX10_safe 10 = .ok (.bipush (-4), 2) := by decide +kernel
theorem dX10_safe_12 : decode cX10_safe 12 = .ok (.ireturn, 1) := by decide +kernel
theorem dX10_safe_13 : decode cX10_safe 13 = .ok (.iconst 0, 1) := by decide +kernel
theorem dX10_safe_14 : decode cX10_safe 14 = .ok (.istore_n 1, 1) := by decide +kernel
theorem dX10_safe_15 : decode cX10_safe 15 = .ok (.iconst 0, 1) := by decide +kernel
theorem dX10_safe_16 : decode cX10_safe 16 = .ok (.istore_n 2, 1) := by decide +kernel
theorem dX10_safe_17 : decode cX10_safe 17 = .ok (.iconst 0, 1) := by decide +kernel
theorem dX10_safe_18 : decode cX10_safe 18 = .ok (.istore_n 3, 1) := by decide +kernel
theorem dX10_safe_19 : decode cX10_safe 19 = .ok (.aload_n 0, 1) := by decide +kernel
theorem dX10_safe_20 : decode cX10_safe 20 = .ok (.getfield 60, 3) := by decide +kernel
theorem dX10_safe_23 : decode cX10_safe 23 = .ok (.iconst 0, 1) := by decide +kernel
theorem dX10_safe_24 : decode cX10_safe 24 = .ok (.aaload, 1) := by decide +kernel
theorem dX10_safe_25 : decode cX10_safe 25 = .ok (.aload_n 0, 1) := by decide +kernel
theorem dX10_safe_26 : decode cX10_safe 26 = .ok (.getfield 45, 3) := by decide +kernel
theorem dX10_safe_29 : decode cX10_safe 29 = .ok (.invokevirtual 217, 3) := by decide +kernel
theorem dX10_safe_32 : decode cX10_safe 32 = .ok (.iconst 1, 1) := by decide +kernel
theorem dX10_safe_33 : decode cX10_safe 33 = .ok (.istore 4, 2) := by decide +kernel
theorem dX10_safe_35 : decode cX10_safe 35 = .ok (.iload 4, 2) := by decide +kernel
theorem dX10_safe_37 : decode cX10_safe 37 = .ok (.bipush 12, 2) := by decide +kernel
theorem dX10_safe_39 : decode cX10_safe 39 = .ok (.if_icmp .gt 71, 3) := by decide +kernel
theorem dX10_safe_42 : decode cX10_safe 42 = .ok (.aload_n 0, 1) := by decide +kernel
theorem dX10_safe_43 : decode cX10_safe 43 = .ok (.getfield 45, 3) := by decide +kernel
theorem dX10_safe_46 : decode cX10_safe 46 = .ok (.iload 4, 2) := by decide +kernel
theorem dX10_safe_48 : decode cX10_safe 48 = .ok (.invokevirtual 191, 3) := by decide +kernel
theorem dX10_safe_51 : decode cX10_safe 51 = .ok (.ifCond .eq 53, 3) := by decide +kernel
theorem dX10_safe_54 : decode cX10_safe 54 = .ok (.aload_n 0, 1) := by decide +kernel
theorem dX10_safe_55 : decode cX10_safe 55 = .ok (.iconst 0, 1) := by decide +kernel
theorem dX10_safe_56 : decode cX10_safe 56 = .ok (.iload 4, 2) := by decide +kernel
theorem dX10_safe_58 : decode cX10_safe 58 = .ok (.bipush 15, 2) := by decide +kernel
theorem dX10_safe_60 : decode cX10_safe 60 = .ok (.invokevirtual 226, 3) := by decide +kernel
theorem dX10_safe_63 : decode cX10_safe 63 = .ok (.invokestatic 229, 3) := by decide +kernel
theorem dX10_safe_66 : decode cX10_safe 66 = .ok (.istore 5, 2) := by decide +kernel
theorem dX10_safe_68 : decode cX10_safe 68 = .ok (.iload 5, 2) := by decide +kernel
theorem dX10_safe_70 : decode cX10_safe 70 = .ok (.ifCond .ne 10, 3) := by decide +kernel
theorem dX10_safe_73 : decode cX10_safe 73 = .ok (.iload_n 1, 1) := by decide +kernel
theorem dX10_safe_74 : decode cX10_safe 74 = .ok (.iconst 1, 1) := by decide +kernel
theorem dX10_safe_75 : decode cX10_safe 75 = .ok (.iload 4, 2) := by decide +kernel
theorem dX10_safe_77 : decode cX10_safe 77 = .ok (.ishl, 1) := by decide +kernel
theorem dX10_safe_78 : decode cX10_safe 78 = .ok (.ior, 1) := by decide +kernel
theorem dX10_safe_79 : decode cX10_safe 79 = .ok (.istore_n 1, 1) := by decide +kernel
theorem dX10_safe_80 : decode cX10_safe 80 = .ok (.iload 5, 2) := by decide +kernel
theorem dX10_safe_82 : decode cX10_safe 82 = .ok (.iload_n 2, 1) := by decide +kernel
theorem dX10_safe_83 : decode cX10_safe 83 = .ok (.if_icmp .le 8, 3) := by decide +kernel
theorem dX10_safe_86 : decode cX10_safe 86 = .ok (.iload 5, 2) := by decide +kernel
theorem dX10_safe_88 : decode cX10_safe 88 = .ok (.istore_n 2, 1) := by decide +kernel
theorem dX10_safe_89 : decode cX10_safe 89 = .ok (.iconst 0, 1) := by decide +kernel
theorem dX10_safe_90 : decode cX10_safe 90 = .ok (.istore_n 3, 1) := by decide +kernel
theorem dX10_safe_91 : decode cX10_safe 91 = .ok (.iload 5, 2) := by decide +kernel
theorem dX10_safe_93 : decode cX10_safe 93 = .ok (.iload_n 2, 1) := by decide +kernel
theorem dX10_safe_94 : decode cX10_safe 94 = .ok (.if_icmp .ne 10, 3) := by decide +kernel
theorem dX10_safe_97 : decode cX10_safe 97 = .ok (.iload_n 3, 1) := by decide +kernel
theorem dX10_safe_98 : decode cX10_safe 98 = .ok (.iconst 1, 1) := by decide +kernel
theorem dX10_safe_99 : decode cX10_safe 99 = .ok (.iload 4, 2) := by decide +kernel
theorem dX10_safe_101 : decode cX10_safe 101 = .ok (.ishl, 1) := by decide +kernel
theorem dX10_safe_102 : decode cX10_safe 102 = .ok (.ior, 1) := by decide +kernel
theorem dX10_safe_103 : decode cX10_safe 103 = .ok (.istore_n 3, 1) := by decide +kernel
theorem dX10_safe_104 : decode cX10_safe 104 = .ok (.iinc 4 1, 3) := by decide +kernel
theorem dX10_safe_107 : decode cX10_safe 107 = .ok (.goto (-72), 3) := by decide +kernel
theorem dX10_safe_110 : decode cX10_safe 110 = .ok (.aload_n 0, 1) := by decide +kernel
theorem dX10_safe_111 : decode cX10_safe 111 = .ok (.iload_n 3, 1) := by decide +kernel
theorem dX10_safe_112 : decode cX10_safe 112 = .ok (.putfield 99, 3) := by decide +kernel
theorem dX10_safe_115 : decode cX10_safe 115 = .ok (.iload_n 1, 1) := by decide +kernel
theorem dX10_safe_116 : decode cX10_safe 116 = .ok (.ireturn, 1) := by decide +kernel
theorem dX10_fewest_0 : decode cX10_fewest 0 = .ok (.aload_n 0, 1) := by decide +kernel
theorem dX10_fewest_1 : decode cX10_fewest 1 = .ok (.iload_n 1, 1) := by decide +kernel
theorem dX10_fewest_2 : decode cX10_fewest 2 = .ok (.invokevirtual 138, 3) := by decide +kernel
theorem dX10_fewest_5 : decode cX10_fewest 5 = .ok (.ifCond .eq 11, 3) := by decide +kernel
theorem dX10_fewest_8 : decode cX10_fewest 8 = .ok (.aload_n 0, 1) := by decide +kernel
theorem dX10_fewest_9 : decode cX10_fewest 9 = .ok (.iload_n 2, 1) := by decide +kernel
theorem dX10_fewest_10 : decode cX10_fewest 10 = .ok (.invokevirtual 87, 3) := by decide +kernel
theorem dX10_fewest_13 : decode cX10_fewest 13 = .ok (.ifCond .ne 5, 3) := by decide +kernel
theorem dX10_fewest_16 : decode cX10_fewest 16 = .ok (.iconst (-1), 1) := by decide +kernel
theorem dX10_fewest_17 : decode cX10_fewest 17 = .ok (.ireturn, 1) := by decide +kernel
theorem dX10_fewest_18 : decode cX10_fewest 18 = .ok (.aload_n 0, 1) := by decide +kernel
theorem dX10_fewest_19 : decode cX10_fewest 19 = .ok (.iconst 4, 1) := by decide +kernel
theorem dX10_fewest_20 : decode cX10_fewest 20 = .ok (.invokevirtual 234, 3) := by decide +kernel
theorem dX10_fewest_23 : decode cX10_fewest 23 = .ok (.istore_n 3, 1) := by decide +kernel
theorem dX10_fewest_24 : decode cX10_fewest 24 = .ok (.iconst 0, 1) := by decide +kernel
theorem dX10_fewest_25 : decode cX10_fewest 25 = .ok (.istore 4, 2) := by decide +kernel
theorem dX10_fewest_27 : decode cX10_fewest 27 = .ok (.iload 4, 2) := by decide +kernel
theorem dX10_fewest_29 : decode cX10_fewest 29 = .ok (.iload_n 3, 1) := by decide +kernel
theorem dX10_fewest_30 : decode cX10_fewest 30 = .ok (.if_icmp .gt 30, 3) := by decide +kernel
theorem dX10_fewest_33 : decode cX10_fewest 33 = .ok (.aload_n 0, 1) := by decide +kernel
theorem dX10_fewest_34 : decode cX10_fewest 34 = .ok (.iload_n 1, 1) := by decide +kernel
theorem dX10_fewest_35 : decode cX10_fewest 35 = .ok (.iconst 0, 1) := by decide +kernel
theorem dX10_fewest_36 : decode cX10_fewest 36 = .ok (.iload 4, 2) := by decide +kernel
theorem dX10_fewest_38 : decode cX10_fewest 38 = .ok (.invokevirtual 237, 3) := by decide +kernel
theorem dX10_fewest_41 : decode cX10_fewest 41 = .ok (.ifCond .eq 13, 3) := by decide +kernel
theorem dX10_fewest_44 : decode cX10_fewest 44 = .ok (.aload_n 0, 1) := by decide +kernel
theorem dX10_fewest_45 : decode cX10_fewest 45 = .ok (.iload_n 2, 1) := by decide +kernel
theorem dX10_fewest_46 : decode cX10_fewest 46 = .ok (.iload 4, 2) := by decide +kernel
theorem dX10_fewest_48 : decode cX10_fewest 48 = .ok (.invokevirtual 240, 3) := by decide +kernel
theorem dX10_fewest_51 : decode cX10_fewest 51 = .ok (.iload 4, 2) := by decide +kernel
theorem dX10_fewest_53 : decode cX10_fewest 53 = .ok (.ireturn, 1) := by decide +kernel
theorem dX10_fewest_54 : decode cX10_fewest 54 = .ok (.iinc 4 1, 3) := by decide +kernel
theorem dX10_fewest_57 : decode cX10_fewest 57 = .ok (.goto (-30), 3) := by decide +kernel
theorem dX10_fewest_60 : decode cX10_fewest 60 = .ok (.bipush (-9), 2) := by decide +kernel
theorem dX10_fewest_62 : decode cX10_fewest 62 = .ok (.ireturn, 1) := by decide +kernel
theorem dX10_most_0 : decode cX10_most 0 = .ok (.iload_n 1, 1) := by decide +kernel
theorem dX10_most_1 : decode cX10_most 1 = .ok (.ifCond .lt 16, 3) := by decide +kernel
theorem dX10_most_4 : decode cX10_most 4 = .ok (.iload_n 1, 1) := by decide +kernel
theorem dX10_most_5 : decode cX10_most 5 = .ok (.iconst 4, 1) := by decide +kernel
theorem dX10_most_6 : decode cX10_most 6 = .ok (.if_icmp .gt 11, 3) := by decide +kernel
theorem dX10_most_9 : decode cX10_most 9 = .ok (.aload_n 0, 1) := by decide +kernel
theorem dX10_most_10 : decode cX10_most 10 = .ok (.iload_n 2, 1) := by decide +kernel
theorem dX10_most_11 : decode cX10_most 11 = .ok (.invokevirtual 87, 3) := by decide +kernel
theorem dX10_most_14 : decode cX10_most 14 = .ok (.ifCond .ne 5, 3) := by decide +kernel
theorem dX10_most_17 : decode cX10_most 17 = .ok (.iconst (-1), 1) := by decide +kernel
theorem dX10_most_18 : decode cX10_most 18 = .ok (.ireturn, 1) := by decide +kernel
theorem dX10_most_19 : decode cX10_most 19 = .ok (.aload_n 0, 1) := by decide +kernel
theorem dX10_most_20 : decode cX10_most 20 = .ok (.getfield 36, 3) := by decide +kernel
theorem dX10_most_23 : decode cX10_most 23 = .ok (.getfield 135, 3) := by decide +kernel
theorem dX10_most_26 : decode cX10_most 26 = .ok (.ifCond .ne 6, 3) := by decide +kernel
theorem dX10_most_29 : decode cX10_most 29 = .ok (.bipush (-4), 2) := by decide +kernel
theorem dX10_most_31 : decode cX10_most 31 = .ok (.ireturn, 1) := by decide +kernel
theorem dX10_most_32 : decode cX10_most 32 = .ok (.aload_n 0, 1) := by decide +kernel
theorem dX10_most_33 : decode cX10_most 33 = .ok (.iconst (-1), 1) := by decide +kernel
theorem dX10_most_34 : decode cX10_most 34 = .ok (.putfield 243, 3) := by decide +kernel
theorem dX10_most_37 : decode cX10_most 37 = .ok (.aload_n 0, 1) := by decide +kernel
theorem dX10_most_38 : decode cX10_most 38 = .ok (.iload_n 2, 1) := by decide +kernel
theorem dX10_most_39 : decode cX10_most 39 = .ok (.iconst 0, 1) := by decide +kernel
theorem dX10_most_40 : decode cX10_most 40 = .ok (.aload_n 0, 1) := by decide +kernel
theorem dX10_most_41 : decode cX10_most 41 = .ok (.iload_n 1, 1) := by decide +kernel
theorem dX10_most_42 : decode cX10_most 42 = .ok (.invokevirtual 234, 3) := by decide +kernel
theorem dX10_most_45 : decode cX10_most 45 = .ok (.invokevirtual 246, 3) := by decide +kernel
theorem dX10_most_48 : decode cX10_most 48 = .ok (.aload_n 0, 1) := by decide +kernel
theorem dX10_most_49 : decode cX10_most 49 = .ok (.getfield 243, 3) := by decide +kernel
theorem dX10_most_52 : decode cX10_most 52 = .ok (.ireturn, 1) := by decide +kernel
theorem dX10_which_0 : decode cX10_which 0 = .ok (.aload_n 0, 1) := by decide +kernel
theorem dX10_which_1 : decode cX10_which 1 = .ok (.iload_n 1, 1) := by decide +kernel
theorem dX10_which_2 : decode cX10_which 2 = .ok (.invokevirtual 138, 3) := by decide +kernel
theorem dX10_which_5 : decode cX10_which 5 = .ok (.ifCond .eq 13, 3) := by decide +kernel
theorem dX10_which_8 : decode cX10_which 8 = .ok (.iload_n 2, 1) := by decide +kernel
theorem dX10_which_9 : decode cX10_which 9 = .ok (.ifCond .lt 9, 3) := by decide +kernel
theorem dX10_which_12 : decode cX10_which 12 = .ok (.iload_n 2, 1) := by decide +kernel
theorem dX10_which_13 : decode cX10_which 13 = .ok (.bipush 63, 2) := by decide +kernel
theorem dX10_which_15 : decode cX10_which 15 = .ok (.if_icmp .le 5, 3) := by decide +kernel
theorem dX10_which_18 : decode cX10_which 18 = .ok (.iconst (-1), 1) := by decide +kernel
theorem dX10_which_19 : decode cX10_which 19 = .ok (.ireturn, 1) := by decide +kernel
theorem dX10_which_20 : decode cX10_which 20 = .ok (.iconst 0, 1) := by decide +kernel
theorem dX10_which_21 : decode cX10_which 21 = .ok (.istore_n 3, 1) := by decide +kernel
theorem dX10_which_22 : decode cX10_which 22 = .ok (.iconst 1, 1) := by decide +kernel
theorem dX10_which_23 : decode cX10_which 23 = .ok (.istore 4, 2) := by decide +kernel
theorem dX10_which_25 : decode cX10_which 25 = .ok (.iload 4, 2) := by decide +kernel
theorem dX10_which_27 : decode cX10_which 27 = .ok (.bipush 12, 2) := by decide +kernel
theorem dX10_which_29 : decode cX10_which 29 = .ok (.if_icmp .gt 48, 3) := by decide +kernel
theorem dX10_which_32 : decode cX10_which 32 = .ok (.aload_n 0, 1) := by decide +kernel
theorem dX10_which_33 : decode cX10_which 33 = .ok (.getfield 45, 3) := by decide +kernel
theorem dX10_which_36 : decode cX10_which 36 = .ok (.iload 4, 2) := by decide +kernel
theorem dX10_which_38 : decode cX10_which 38 = .ok (.invokevirtual 191, 3) := by decide +kernel
theorem dX10_which_41 : decode cX10_which 41 = .ok (.ifCond .eq 30, 3) := by decide +kernel
theorem dX10_which_44 : decode cX10_which 44 = .ok (.aload_n 0, 1) := by decide +kernel
theorem dX10_which_45 : decode cX10_which 45 = .ok (.aload_n 0, 1) := by decide +kernel
theorem dX10_which_46 : decode cX10_which 46 = .ok (.getfield 36, 3) := by decide +kernel
theorem dX10_which_49 : decode cX10_which 49 = .ok (.getfield 250, 3) := by decide +kernel
theorem dX10_which_52 : decode cX10_which 52 = .ok (.iload_n 1, 1) := by decide +kernel
theorem dX10_which_53 : decode cX10_which 53 = .ok (.iaload, 1) := by decide +kernel
theorem dX10_which_54 : decode cX10_which 54 = .ok (.iload_n 1, 1) := by decide +kernel
theorem dX10_which_55 : decode cX10_which 55 = .ok (.iload 4, 2) := by decide +kernel
theorem dX10_which_57 : decode cX10_which 57 = .ok (.invokevirtual 253, 3) := by decide +kernel
theorem dX10_which_60 : decode cX10_which 60 = .ok (.iload_n 2, 1) := by decide +kernel
theorem dX10_which_61 : decode cX10_which 61 = .ok (.if_icmp .ne 10, 3) := by decide +kernel
theorem dX10_which_64 : decode cX10_which 64 = .ok (.iload_n 3, 1) := by decide +kernel
theorem dX10_which_65 : decode cX10_which 65 = .ok (.iconst 1, 1) := by decide +kernel
theorem dX10_which_66 : decode cX10_which 66 = .ok (.iload 4, 2) := by decide +kernel
theorem dX10_which_68 : decode cX10_which 68 = .ok (.ishl, 1) := by decide +kernel
theorem dX10_which_69 : decode cX10_which 69 = .ok (.ior, 1) := by decide +kernel
theorem dX10_which_70 : decode cX10_which 70 = .ok (.istore_n 3, 1) := by decide +kernel
theorem dX10_which_71 : decode cX10_which 71 = .ok (.iinc 4 1, 3) := by decide +kernel
theorem dX10_which_74 : decode cX10_which 74 = .ok (.goto (-49), 3) := by decide +kernel
theorem dX10_which_77 : decode cX10_which 77 = .ok (.iload_n 3, 1) := by decide +kernel
theorem dX10_which_78 : decode cX10_which 78 = .ok (.ireturn, 1) := by decide +kernel
theorem dX10_kinds_0 : decode cX10_kinds 0 = .ok (.aload_n 0, 1) := by decide +kernel
theorem dX10_kinds_1 : decode cX10_kinds 1 = .ok (.iload_n 1, 1) := by decide +kernel
theorem dX10_kinds_2 : decode cX10_kinds 2 = .ok (.iload_n 2, 1) := by decide +kernel
theorem dX10_kinds_3 : decode cX10_kinds 3 = .ok (.invokevirtual 256, 3) := by decide +kernel
theorem dX10_kinds_6 : decode cX10_kinds 6 = .ok (.istore_n 3, 1) := by decide +kernel
theorem dX10_kinds_7 : decode cX10_kinds 7 = .ok (.iload_n 3, 1) := by decide +kernel
theorem dX10_kinds_8 : decode cX10_kinds 8 = .ok (.ifCond .eq 5, 3) := by decide +kernel
theorem dX10_kinds_11 : decode cX10_kinds 11 = .ok (.iload_n 3, 1) := by decide +kernel
theorem dX10_kinds_12 : decode cX10_kinds 12 = .ok (.ireturn, 1) := by decide +kernel
theorem dX10_kinds_13 : decode cX10_kinds 13 = .ok (.aload_n 0, 1) := by decide +kernel
theorem dX10_kinds_14 : decode cX10_kinds 14 = .ok (.iload_n 1, 1) := by decide +kernel
theorem dX10_kinds_15 : decode cX10_kinds 15 = .ok (.iload_n 2, 1) := by decide +kernel
theorem dX10_kinds_16 : decode cX10_kinds 16 = .ok (.invokevirtual 259, 3) := by decide +kernel
theorem dX10_kinds_19 : decode cX10_kinds 19 = .ok (.ireturn, 1) := by decide +kernel
theorem dX10_next_0 : decode cX10_next 0 = .ok (.aload_n 0, 1) := by decide +kernel
theorem dX10_next_1 : decode cX10_next 1 = .ok (.iload_n 1, 1) := by decide +kernel
theorem dX10_next_2 : decode cX10_next 2 = .ok (.iload_n 2, 1) := by decide +kernel
theorem dX10_next_3 : decode cX10_next 3 = .ok (.invokevirtual 256, 3) := by decide +kernel
theorem dX10_next_6 : decode cX10_next 6 = .ok (.istore_n 3, 1) := by decide +kernel
theorem dX10_next_7 : decode cX10_next 7 = .ok (.iload_n 3, 1) := by decide +kernel
theorem dX10_next_8 : decode cX10_next 8 = .ok (.ifCond .eq 5, 3) := by decide +kernel
theorem dX10_next_11 : decode cX10_next 11 = .ok (.iload_n 3, 1) := by decide +kernel
theorem dX10_next_12 : decode cX10_next 12 = .ok (.ireturn, 1) := by decide +kernel
theorem dX10_next_13 : decode cX10_next 13 = .ok (.aload_n 0, 1) := by decide +kernel
theorem dX10_next_14 : decode cX10_next 14 = .ok (.iload_n 1, 1) := by decide +kernel
theorem dX10_next_15 : decode cX10_next 15 = .ok (.iload_n 2, 1) := by decide +kernel
theorem dX10_next_16 : decode cX10_next 16 = .ok (.invokevirtual 259, 3) := by decide +kernel
theorem dX10_next_19 : decode cX10_next 19 = .ok (.istore 4, 2) := by decide +kernel
theorem dX10_next_21 : decode cX10_next 21 = .ok (.iload 4, 2) := by decide +kernel
theorem dX10_next_23 : decode cX10_next 23 = .ok (.ifCond .eq 13, 3) := by decide +kernel
theorem dX10_next_26 : decode cX10_next 26 = .ok (.aload_n 0, 1) := by decide +kernel
theorem dX10_next_27 : decode cX10_next 27 = .ok (.getfield 45, 3) := by decide +kernel
theorem dX10_next_30 : decode cX10_next 30 = .ok (.getfield 262, 3) := by decide +kernel
theorem dX10_next_33 : decode cX10_next 33 = .ok (.ifCond .ne 6, 3) := by decide +kernel
theorem dX10_next_36 : decode cX10_next 36 = .ok (.bipush (-9), 2) := by decide +kernel
theorem dX10_next_38 : decode cX10_next 38 = .ok (.ireturn, 1) := by decide +kernel
theorem dX10_next_39 : decode cX10_next 39 = .ok (.bipush 7, 2) := by decide +kernel
theorem dX10_next_41 : decode cX10_next 41 = .ok (.istore 5, 2) := by decide +kernel
theorem dX10_next_43 : decode cX10_next 43 = .ok (.iconst 0, 1) := by decide +kernel
theorem dX10_next_44 : decode cX10_next 44 = .ok (.istore 6, 2) := by decide +kernel
theorem dX10_next_46 : decode cX10_next 46 = .ok (.iconst 1, 1) := by decide +kernel
theorem dX10_next_47 : decode cX10_next 47 = .ok (.istore 7, 2) := by decide +kernel
theorem dX10_next_49 : decode cX10_next 49 = .ok (.iload 7, 2) := by decide +kernel
theorem dX10_next_51 : decode cX10_next 51 = .ok (.bipush 12, 2) := by decide +kernel
theorem dX10_next_53 : decode cX10_next 53 = .ok (.if_icmp .gt 47, 3) := by decide +kernel
theorem dX10_next_56 : decode cX10_next 56 = .ok (.aload_n 0, 1) := by decide +kernel
theorem dX10_next_57 : decode cX10_next 57 = .ok (.getfield 45, 3) := by decide +kernel
theorem dX10_next_60 : decode cX10_next 60 = .ok (.iload 7, 2) := by decide +kernel
theorem dX10_next_62 : decode cX10_next 62 = .ok (.invokevirtual 191, 3) := by decide +kernel
theorem dX10_next_65 : decode cX10_next 65 = .ok (.ifCond .eq 29, 3) := by decide +kernel
theorem dX10_next_68 : decode cX10_next 68 = .ok (.aload_n 0, 1) := by decide +kernel
theorem dX10_next_69 : decode cX10_next 69 = .ok (.iload 4, 2) := by decide +kernel
theorem dX10_next_71 : decode cX10_next 71 = .ok (.iload_n 1, 1) := by decide +kernel
theorem dX10_next_72 : decode cX10_next 72 = .ok (.iload 7, 2) := by decide +kernel
theorem dX10_next_74 : decode cX10_next 74 = .ok (.invokevirtual 265, 3) := by decide +kernel
theorem dX10_next_77 : decode cX10_next 77 = .ok (.istore 8, 2) := by decide +kernel
theorem dX10_next_79 : decode cX10_next 79 = .ok (.iload 8, 2) := by decide +kernel
theorem dX10_next_81 : decode cX10_next 81 = .ok (.iload 5, 2) := by decide +kernel
theorem dX10_next_83 : decode cX10_next 83 = .ok (.if_icmp .ge 11, 3) := by decide +kernel
theorem dX10_next_86 : decode cX10_next 86 = .ok (.iload 8, 2) := by decide +kernel
theorem dX10_next_88 : decode cX10_next 88 = .ok (.istore 5, 2) := by decide +kernel
theorem dX10_next_90 : decode cX10_next 90 = .ok (.iload 7, 2) := by decide +kernel
theorem dX10_next_92 : decode cX10_next 92 = .ok (.istore 6, 2) := by decide +kernel
theorem dX10_next_94 : decode cX10_next 94 = .ok (.iinc 7 1, 3) := by decide +kernel
theorem dX10_next_97 : decode cX10_next 97 = .ok (.goto (-48), 3) := by decide +kernel
theorem dX10_next_100 : decode cX10_next 100 = .ok (.aload_n 0, 1) := by decide +kernel
theorem dX10_next_101 : decode cX10_next 101 = .ok (.iload 5, 2) := by decide +kernel
theorem dX10_next_103 : decode cX10_next 103 = .ok (.putfield 99, 3) := by decide +kernel
theorem dX10_next_106 : decode cX10_next 106 = .ok (.iload 6, 2) := by decide +kernel
theorem dX10_next_108 : decode cX10_next 108 = .ok (.ireturn, 1) := by decide +kernel
theorem dX10_duel_0 : decode cX10_duel 0 = .ok (.aload_n 0, 1) := by decide +kernel
theorem dX10_duel_1 : decode cX10_duel 1 = .ok (.iload_n 1, 1) := by decide +kernel
theorem dX10_duel_2 : decode cX10_duel 2 = .ok (.invokevirtual 138, 3) := by decide +kernel
theorem dX10_duel_5 : decode cX10_duel 5 = .ok (.ifCond .eq 25, 3) := by decide +kernel
theorem dX10_duel_8 : decode cX10_duel 8 = .ok (.aload_n 0, 1) := by decide +kernel
theorem dX10_duel_9 : decode cX10_duel 9 = .ok (.iload_n 2, 1) := by decide +kernel
theorem dX10_duel_10 : decode cX10_duel 10 = .ok (.invokevirtual 138, 3) := by decide +kernel
theorem dX10_duel_13 : decode cX10_duel 13 = .ok (.ifCond .eq 17, 3) := by decide +kernel
theorem dX10_duel_16 : decode cX10_duel 16 = .ok (.iload_n 1, 1) := by decide +kernel
theorem dX10_duel_17 : decode cX10_duel 17 = .ok (.iload_n 2, 1) := by decide +kernel
theorem dX10_duel_18 : decode cX10_duel 18 = .ok (.if_icmp .eq 12, 3) := by decide +kernel
theorem dX10_duel_21 : decode cX10_duel 21 = .ok (.iload_n 3, 1) := by decide +kernel
theorem dX10_duel_22 : decode cX10_duel 22 = .ok (.ifCond .lt 8, 3) := by decide +kernel
theorem dX10_duel_25 : decode cX10_duel 25 = .ok (.iload_n 3, 1) := by decide +kernel
theorem dX10_duel_26 : decode cX10_duel 26 = .ok (.iconst 2, 1) := by decide +kernel
theorem dX10_duel_27 : decode cX10_duel 27 = .ok (.if_icmp .le 5, 3) := by decide +kernel
theorem dX10_duel_30 : decode cX10_duel 30 = .ok (.iconst (-1), 1) := by decide +kernel
theorem dX10_duel_31 : decode cX10_duel 31 = .ok (.ireturn, 1) := by decide +kernel
theorem dX10_duel_32 : decode cX10_duel 32 = .ok (.aload_n 0, 1) := by decide +kernel
theorem dX10_duel_33 : decode cX10_duel 33 = .ok (.aload_n 0, 1) := by decide +kernel
theorem dX10_duel_34 : decode cX10_duel 34 = .ok (.iload_n 1, 1) := by decide +kernel
theorem dX10_duel_35 : decode cX10_duel 35 = .ok (.iload_n 2, 1) := by decide +kernel
theorem dX10_duel_36 : decode cX10_duel 36 = .ok (.iconst 0, 1) := by decide +kernel
theorem dX10_duel_37 : decode cX10_duel 37 = .ok (.aload_n 0, 1) := by decide +kernel
theorem dX10_duel_38 : decode cX10_duel 38 = .ok (.iconst 2, 1) := by decide +kernel
theorem dX10_duel_39 : decode cX10_duel 39 = .ok (.iload_n 3, 1) := by decide +kernel
theorem dX10_duel_40 : decode cX10_duel 40 = .ok (.imul, 1) := by decide +kernel
theorem dX10_duel_41 : decode cX10_duel 41 = .ok (.invokevirtual 234, 3) := by decide +kernel
theorem dX10_duel_44 : decode cX10_duel 44 = .ok (.invokevirtual 268, 3) := by decide +kernel
theorem dX10_duel_47 : decode cX10_duel 47 = .ok (.putfield 99, 3) := by decide +kernel
theorem dX10_duel_50 : decode cX10_duel 50 = .ok (.iconst 1, 1) := by decide +kernel
theorem dX10_duel_51 : decode cX10_duel 51 = .ok (.ireturn, 1) := by decide +kernel
theorem dX10_odds_0 : decode cX10_odds 0 = .ok (.aload_n 0, 1) := by decide +kernel
theorem dX10_odds_1 : decode cX10_odds 1 = .ok (.iload_n 1, 1) := by decide +kernel
theorem dX10_odds_2 : decode cX10_odds 2 = .ok (.iload_n 2, 1) := by decide +kernel
theorem dX10_odds_3 : decode cX10_odds 3 = .ok (.iconst 1, 1) := by decide +kernel
theorem dX10_odds_4 : decode cX10_odds 4 = .ok (.invokevirtual 272, 3) := by decide +kernel
theorem dX10_odds_7 : decode cX10_odds 7 = .ok (.ireturn, 1) := by decide +kernel
theorem dX10_mid_0 : decode cX10_mid 0 = .ok (.aload_n 0, 1) := by decide +kernel
theorem dX10_mid_1 : decode cX10_mid 1 = .ok (.iload_n 1, 1) := by decide +kernel
theorem dX10_mid_2 : decode cX10_mid 2 = .ok (.iload_n 2, 1) := by decide +kernel
theorem dX10_mid_3 : decode cX10_mid 3 = .ok (.iconst 0, 1) := by decide +kernel
theorem dX10_mid_4 : decode cX10_mid 4 = .ok (.invokevirtual 272, 3) := by decide +kernel
theorem dX10_mid_7 : decode cX10_mid 7 = .ok (.ireturn, 1) := by decide +kernel
theorem dX10_lots_0 : decode cX10_lots 0 = .ok (.iload_n 1, 1) := by decide +kernel
theorem dX10_lots_1 : decode cX10_lots 1 = .ok (.iconst 1, 1) := by decide +kernel
theorem dX10_lots_2 : decode cX10_lots 2 = .ok (.if_icmp .lt 23, 3) := by decide +kernel
theorem dX10_lots_5 : decode cX10_lots 5 = .ok (.iload_n 1, 1) := by decide +kernel
theorem dX10_lots_6 : decode cX10_lots 6 = .ok (.bipush 20, 2) := by decide +kernel
theorem dX10_lots_8 : decode cX10_lots 8 = .ok (.if_icmp .gt 17, 3) := by decide +kernel
theorem dX10_lots_11 : decode cX10_lots 11 = .ok (.iload_n 2, 1) := by decide +kernel
theorem dX10_lots_12 : decode cX10_lots 12 = .ok (.iconst 1, 1) := by decide +kernel
theorem dX10_lots_13 : decode cX10_lots 13 = .ok (.if_icmp .lt 12, 3) := by decide +kernel
theorem dX10_lots_16 : decode cX10_lots 16 = .ok (.iload_n 2, 1) := by decide +kernel
theorem dX10_lots_17 : decode cX10_lots 17 = .ok (.i2l, 1) := by decide +kernel
theorem dX10_lots_18 : decode cX10_lots 18 = .ok (.ldc2_w 276, 3) := by decide +kernel
theorem dX10_lots_21 : decode cX10_lots 21 = .ok (.lcmp, 1) := by decide +kernel
theorem dX10_lots_22 : decode cX10_lots 22 = .ok (.ifCond .lt 5, 3) := by decide +kernel
theorem dX10_lots_25 : decode cX10_lots 25 = .ok (.iconst (-1), 1) := by decide +kernel
theorem dX10_lots_26 : decode cX10_lots 26 = .ok (.ireturn, 1) := by decide +kernel
theorem dX10_lots_27 : decode cX10_lots 27 = .ok (.aload_n 0, 1) := by decide +kernel
theorem dX10_lots_28 : decode cX10_lots 28 = .ok (.getfield 36, 3) := by decide +kernel
theorem dX10_lots_31 : decode cX10_lots 31 = .ok (.getfield 135, 3) := by decide +kernel
theorem dX10_lots_34 : decode cX10_lots 34 = .ok (.ifCond .ne 6, 3) := by decide +kernel
theorem dX10_lots_37 : decode cX10_lots 37 = .ok (.bipush (-4), 2) := by decide +kernel
theorem dX10_lots_39 : decode cX10_lots 39 = .ok (.ireturn, 1) := by decide +kernel
theorem dX10_lots_40 : decode cX10_lots 40 = .ok (.aload_n 0, 1) := by decide +kernel
theorem dX10_lots_41 : decode cX10_lots 41 = .ok (.getfield 52, 3) := by decide +kernel
theorem dX10_lots_44 : decode cX10_lots 44 = .ok (.getfield 83, 3) := by decide +kernel
theorem dX10_lots_47 : decode cX10_lots 47 = .ok (.iload_n 1, 1) := by decide +kernel
theorem dX10_lots_48 : decode cX10_lots 48 = .ok (.iadd, 1) := by decide +kernel
theorem dX10_lots_49 : decode cX10_lots 49 = .ok (.bipush 40, 2) := by decide +kernel
theorem dX10_lots_51 : decode cX10_lots 51 = .ok (.if_icmp .le 6, 3) := by decide +kernel
theorem dX10_lots_54 : decode cX10_lots 54 = .ok (.bipush (-2), 2) := by decide +kernel
theorem dX10_lots_56 : decode cX10_lots 56 = .ok (.ireturn, 1) := by decide +kernel
theorem dX10_lots_57 : decode cX10_lots 57 = .ok (.iload_n 2, 1) := by decide +kernel
theorem dX10_lots_58 : decode cX10_lots 58 = .ok (.istore_n 3, 1) := by decide +kernel
theorem dX10_lots_59 : decode cX10_lots 59 = .ok (.iconst 0, 1) := by decide +kernel
theorem dX10_lots_60 : decode cX10_lots 60 = .ok (.istore 4, 2) := by decide +kernel
theorem dX10_lots_62 : decode cX10_lots 62 = .ok (.iload 4, 2) := by decide +kernel
theorem dX10_lots_64 : decode cX10_lots 64 = .ok (.iload_n 1, 1) := by decide +kernel
theorem dX10_lots_65 : decode cX10_lots 65 = .ok (.if_icmp .ge 26, 3) := by decide +kernel
theorem dX10_lots_68 : decode cX10_lots 68 = .ok (.ldc2_w 278, 3) := by decide +kernel
theorem dX10_lots_71 : decode cX10_lots 71 = .ok (.iload_n 3, 1) := by decide +kernel
theorem dX10_lots_72 : decode cX10_lots 72 = .ok (.i2l, 1) := by decide +kernel
theorem dX10_lots_73 : decode cX10_lots 73 = .ok (.lmul, 1) := by decide +kernel
theorem dX10_lots_74 : decode cX10_lots 74 = .ok (.ldc2_w 276, 3) := by decide +kernel
theorem dX10_lots_77 : decode cX10_lots 77 = .ok (.lrem, 1) := by decide +kernel
theorem dX10_lots_78 : decode cX10_lots 78 = .ok (.l2i, 1) := by decide +kernel
theorem dX10_lots_79 : decode cX10_lots 79 = .ok (.istore_n 3, 1) := by decide +kernel
theorem dX10_lots_80 : decode cX10_lots 80 = .ok (.aload_n 0, 1) := by decide +kernel
theorem dX10_lots_81 : decode cX10_lots 81 = .ok (.iload_n 3, 1) := by decide +kernel
theorem dX10_lots_82 : decode cX10_lots 82 = .ok (.invokevirtual 280, 3) := by decide +kernel
theorem dX10_lots_85 : decode cX10_lots 85 = .ok (.iinc 4 1, 3) := by decide +kernel
theorem dX10_lots_88 : decode cX10_lots 88 = .ok (.goto (-26), 3) := by decide +kernel
theorem dX10_lots_91 : decode cX10_lots 91 = .ok (.aload_n 0, 1) := by decide +kernel
theorem dX10_lots_92 : decode cX10_lots 92 = .ok (.getfield 45, 3) := by decide +kernel
theorem dX10_lots_95 : decode cX10_lots 95 = .ok (.getfield 223, 3) := by decide +kernel
theorem dX10_lots_98 : decode cX10_lots 98 = .ok (.ireturn, 1) := by decide +kernel
theorem dX10_asked_0 : decode cX10_asked 0 = .ok (.aload_n 0, 1) := by decide +kernel
theorem dX10_asked_1 : decode cX10_asked 1 = .ok (.getfield 99, 3) := by decide +kernel
theorem dX10_asked_4 : decode cX10_asked 4 = .ok (.ireturn, 1) := by decide +kernel
theorem dX10_upper_0 : decode cX10_upper 0 = .ok (.aload_n 0, 1) := by decide +kernel
theorem dX10_upper_1 : decode cX10_upper 1 = .ok (.getfield 284, 3) := by decide +kernel
theorem dX10_upper_4 : decode cX10_upper 4 = .ok (.lreturn, 1) := by decide +kernel
theorem dX10_lower_0 : decode cX10_lower 0 = .ok (.aload_n 0, 1) := by decide +kernel
theorem dX10_lower_1 : decode cX10_lower 1 = .ok (.getfield 70, 3) := by decide +kernel
theorem dX10_lower_4 : decode cX10_lower 4 = .ok (.lreturn, 1) := by decide +kernel
theorem dX10_count_0 : decode cX10_count 0 = .ok (.iload_n 1, 1) := by decide +kernel
theorem dX10_count_1 : decode cX10_count 1 = .ok (.tableswitch 156 0 11 #[63, 71, 79, 87, 95, 103, 111, 119, 127, 135, 143, 151], 63) := by decide +kernel
theorem dX10_count_64 : decode cX10_count 64 = .ok (.aload_n 0, 1) := by decide +kernel
theorem dX10_count_65 : decode cX10_count 65 = .ok (.getfield 36, 3) := by decide +kernel
theorem dX10_count_68 : decode cX10_count 68 = .ok (.getfield 135, 3) := by decide +kernel
theorem dX10_count_71 : decode cX10_count 71 = .ok (.ireturn, 1) := by decide +kernel
theorem dX10_count_72 : decode cX10_count 72 = .ok (.aload_n 0, 1) := by decide +kernel
theorem dX10_count_73 : decode cX10_count 73 = .ok (.getfield 45, 3) := by decide +kernel
theorem dX10_count_76 : decode cX10_count 76 = .ok (.getfield 164, 3) := by decide +kernel
theorem dX10_count_79 : decode cX10_count 79 = .ok (.ireturn, 1) := by decide +kernel
theorem dX10_count_80 : decode cX10_count 80 = .ok (.aload_n 0, 1) := by decide +kernel
theorem dX10_count_81 : decode cX10_count 81 = .ok (.getfield 52, 3) := by decide +kernel
theorem dX10_count_84 : decode cX10_count 84 = .ok (.getfield 83, 3) := by decide +kernel
theorem dX10_count_87 : decode cX10_count 87 = .ok (.ireturn, 1) := by decide +kernel
theorem dX10_count_88 : decode cX10_count 88 = .ok (.aload_n 0, 1) := by decide +kernel
theorem dX10_count_89 : decode cX10_count 89 = .ok (.getfield 45, 3) := by decide +kernel
theorem dX10_count_92 : decode cX10_count 92 = .ok (.getfield 262, 3) := by decide +kernel
theorem dX10_count_95 : decode cX10_count 95 = .ok (.ireturn, 1) := by decide +kernel
theorem dX10_count_96 : decode cX10_count 96 = .ok (.aload_n 0, 1) := by decide +kernel
theorem dX10_count_97 : decode cX10_count 97 = .ok (.getfield 45, 3) := by decide +kernel
theorem dX10_count_100 : decode cX10_count 100 = .ok (.getfield 177, 3) := by decide +kernel
theorem dX10_count_103 : decode cX10_count 103 = .ok (.ireturn, 1) := by decide +kernel
theorem dX10_count_104 : decode cX10_count 104 = .ok (.aload_n 0, 1) := by decide +kernel
theorem dX10_count_105 : decode cX10_count 105 = .ok (.getfield 45, 3) := by decide +kernel
theorem dX10_count_108 : decode cX10_count 108 = .ok (.getfield 223, 3) := by decide +kernel
theorem dX10_count_111 : decode cX10_count 111 = .ok (.ireturn, 1) := by decide +kernel
theorem dX10_count_112 : decode cX10_count 112 = .ok (.aload_n 0, 1) := by decide +kernel
theorem dX10_count_113 : decode cX10_count 113 = .ok (.getfield 45, 3) := by decide +kernel
theorem dX10_count_116 : decode cX10_count 116 = .ok (.invokevirtual 287, 3) := by decide +kernel
theorem dX10_count_119 : decode cX10_count 119 = .ok (.ireturn, 1) := by decide +kernel
theorem dX10_count_120 : decode cX10_count 120 = .ok (.aload_n 0, 1) := by decide +kernel
theorem dX10_count_121 : decode cX10_count 121 = .ok (.getfield 36, 3) := by decide +kernel
theorem dX10_count_124 : decode cX10_count 124 = .ok (.invokevirtual 291, 3) := by decide +kernel
theorem dX10_count_127 : decode cX10_count 127 = .ok (.ireturn, 1) := by decide +kernel
theorem dX10_count_128 : decode cX10_count 128 = .ok (.aload_n 0, 1) := by decide +kernel
theorem dX10_count_129 : decode cX10_count 129 = .ok (.getfield 36, 3) := by decide +kernel
theorem dX10_count_132 : decode cX10_count 132 = .ok (.invokevirtual 294, 3) := by decide +kernel
theorem dX10_count_135 : decode cX10_count 135 = .ok (.ireturn, 1) := by decide +kernel
theorem dX10_count_136 : decode cX10_count 136 = .ok (.aload_n 0, 1) := by decide +kernel
theorem dX10_count_137 : decode cX10_count 137 = .ok (.getfield 14, 3) := by decide +kernel
theorem dX10_count_140 : decode cX10_count 140 = .ok (.invokestatic 297, 3) := by decide +kernel
theorem dX10_count_143 : decode cX10_count 143 = .ok (.ireturn, 1) := by decide +kernel
theorem dX10_count_144 : decode cX10_count 144 = .ok (.aload_n 0, 1) := by decide +kernel
theorem dX10_count_145 : decode cX10_count 145 = .ok (.getfield 23, 3) := by decide +kernel
theorem dX10_count_148 : decode cX10_count 148 = .ok (.invokestatic 297, 3) := by decide +kernel
theorem dX10_count_151 : decode cX10_count 151 = .ok (.ireturn, 1) := by decide +kernel
theorem dX10_count_152 : decode cX10_count 152 = .ok (.aload_n 0, 1) := by decide +kernel
theorem dX10_count_153 : decode cX10_count 153 = .ok (.invokevirtual 301, 3) := by decide +kernel
theorem dX10_count_156 : decode cX10_count 156 = .ok (.ireturn, 1) := by decide +kernel
theorem dX10_count_157 : decode cX10_count 157 = .ok (.iconst (-1), 1) := by decide +kernel
theorem dX10_count_158 : decode cX10_count 158 = .ok (.ireturn, 1) := by decide +kernel
theorem dX10_finding_0 : decode cX10_finding 0 = .ok (.aload_n 0, 1) := by decide +kernel
theorem dX10_finding_1 : decode cX10_finding 1 = .ok (.getfield 304, 3) := by decide +kernel
theorem dX10_finding_4 : decode cX10_finding 4 = .ok (.ireturn, 1) := by decide +kernel
theorem dX10_findings_0 : decode cX10_findings 0 = .ok (.iload_n 1, 1) := by decide +kernel
theorem dX10_findings_1 : decode cX10_findings 1 = .ok (.iconst 1, 1) := by decide +kernel
theorem dX10_findings_2 : decode cX10_findings 2 = .ok (.if_icmp .lt 8, 3) := by decide +kernel
theorem dX10_findings_5 : decode cX10_findings 5 = .ok (.iload_n 1, 1) := by decide +kernel
theorem dX10_findings_6 : decode cX10_findings 6 = .ok (.iconst 5, 1) := by decide +kernel
theorem dX10_findings_7 : decode cX10_findings 7 = .ok (.if_icmp .le 5, 3) := by decide +kernel
theorem dX10_findings_10 : decode cX10_findings 10 = .ok (.iconst (-1), 1) := by decide +kernel
theorem dX10_findings_11 : decode cX10_findings 11 = .ok (.ireturn, 1) := by decide +kernel
theorem dX10_findings_12 : decode cX10_findings 12 = .ok (.aload_n 0, 1) := by decide +kernel
theorem dX10_findings_13 : decode cX10_findings 13 = .ok (.getfield 74, 3) := by decide +kernel
theorem dX10_findings_16 : decode cX10_findings 16 = .ok (.iload_n 1, 1) := by decide +kernel
theorem dX10_findings_17 : decode cX10_findings 17 = .ok (.iaload, 1) := by decide +kernel
theorem dX10_findings_18 : decode cX10_findings 18 = .ok (.ireturn, 1) := by decide +kernel
theorem dX10_digest_0 : decode cX10_digest 0 = .ok (.ldc2_w 307, 3) := by decide +kernel
theorem dX10_digest_3 : decode cX10_digest 3 = .ok (.lstore_n 1, 1) := by decide +kernel
theorem dX10_digest_4 : decode cX10_digest 4 = .ok (.iconst 0, 1) := by decide +kernel
theorem dX10_digest_5 : decode cX10_digest 5 = .ok (.istore_n 3, 1) := by decide +kernel
theorem dX10_digest_6 : decode cX10_digest 6 = .ok (.iload_n 3, 1) := by decide +kernel
theorem dX10_digest_7 : decode cX10_digest 7 = .ok (.bipush 11, 2) := by decide +kernel
theorem dX10_digest_9 : decode cX10_digest 9 = .ok (.if_icmp .gt 22, 3) := by decide +kernel
theorem dX10_digest_12 : decode cX10_digest 12 = .ok (.ldc2_w 309, 3) := by decide +kernel
theorem dX10_digest_15 : decode cX10_digest 15 = .ok (.lload_n 1, 1) := by decide +kernel
theorem dX10_digest_16 : decode cX10_digest 16 = .ok (.lmul, 1) := by decide +kernel
theorem dX10_digest_17 : decode cX10_digest 17 = .ok (.aload_n 0, 1) := by decide +kernel
theorem dX10_digest_18 : decode cX10_digest 18 = .ok (.iload_n 3, 1) := by decide +kernel
theorem dX10_digest_19 : decode cX10_digest 19 = .ok (.invokevirtual 311, 3) := by decide +kernel
theorem dX10_digest_22 : decode cX10_digest 22 = .ok (.i2l, 1) := by decide +kernel
theorem dX10_digest_23 : decode cX10_digest 23 = .ok (.ladd, 1) := by decide +kernel
theorem dX10_digest_24 : decode cX10_digest 24 = .ok (.lstore_n 1, 1) := by decide +kernel
theorem dX10_digest_25 : decode cX10_digest 25 = .ok (.iinc 3 1, 3) := by decide +kernel
theorem dX10_digest_28 : decode cX10_digest 28 = .ok (.goto (-22), 3) := by decide +kernel
theorem dX10_digest_31 : decode cX10_digest 31 = .ok (.iconst 0, 1) := by decide +kernel
theorem dX10_digest_32 : decode cX10_digest 32 = .ok (.istore_n 3, 1) := by decide +kernel
theorem dX10_digest_33 : decode cX10_digest 33 = .ok (.iload_n 3, 1) := by decide +kernel
theorem dX10_digest_34 : decode cX10_digest 34 = .ok (.aload_n 0, 1) := by decide +kernel
theorem dX10_digest_35 : decode cX10_digest 35 = .ok (.getfield 36, 3) := by decide +kernel
theorem dX10_digest_38 : decode cX10_digest 38 = .ok (.getfield 135, 3) := by decide +kernel
theorem dX10_digest_41 : decode cX10_digest 41 = .ok (.if_icmp .ge 75, 3) := by decide +kernel
theorem dX10_digest_44 : decode cX10_digest 44 = .ok (.iconst 0, 1) := by decide +kernel
theorem dX10_digest_45 : decode cX10_digest 45 = .ok (.istore 4, 2) := by decide +kernel
theorem dX10_digest_47 : decode cX10_digest 47 = .ok (.iload 4, 2) := by decide +kernel
theorem dX10_digest_49 : decode cX10_digest 49 = .ok (.iconst 4, 1) := by decide +kernel
theorem dX10_digest_50 : decode cX10_digest 50 = .ok (.if_icmp .gt 24, 3) := by decide +kernel
theorem dX10_digest_53 : decode cX10_digest 53 = .ok (.ldc2_w 309, 3) := by decide +kernel
theorem dX10_digest_56 : decode cX10_digest 56 = .ok (.lload_n 1, 1) := by decide +kernel
theorem dX10_digest_57 : decode cX10_digest 57 = .ok (.lmul, 1) := by decide +kernel
theorem dX10_digest_58 : decode cX10_digest 58 = .ok (.aload_n 0, 1) := by decide +kernel
theorem dX10_digest_59 : decode cX10_digest 59 = .ok (.iload_n 3, 1) := by decide +kernel
theorem dX10_digest_60 : decode cX10_digest 60 = .ok (.iload 4, 2) := by decide +kernel
theorem dX10_digest_62 : decode cX10_digest 62 = .ok (.invokevirtual 141, 3) := by decide +kernel
theorem dX10_digest_65 : decode cX10_digest 65 = .ok (.i2l, 1) := by decide +kernel
theorem dX10_digest_66 : decode cX10_digest 66 = .ok (.ladd, 1) := by decide +kernel
theorem dX10_digest_67 : decode cX10_digest 67 = .ok (.lstore_n 1, 1) := by decide +kernel
theorem dX10_digest_68 : decode cX10_digest 68 = .ok (.iinc 4 1, 3) := by decide +kernel
theorem dX10_digest_71 : decode cX10_digest 71 = .ok (.goto (-24), 3) := by decide +kernel
theorem dX10_digest_74 : decode cX10_digest 74 = .ok (.iconst 0, 1) := by decide +kernel
theorem dX10_digest_75 : decode cX10_digest 75 = .ok (.istore 4, 2) := by decide +kernel
theorem dX10_digest_77 : decode cX10_digest 77 = .ok (.iload 4, 2) := by decide +kernel
theorem dX10_digest_79 : decode cX10_digest 79 = .ok (.bipush 6, 2) := by decide +kernel
theorem dX10_digest_81 : decode cX10_digest 81 = .ok (.if_icmp .ge 29, 3) := by decide +kernel
theorem dX10_digest_84 : decode cX10_digest 84 = .ok (.ldc2_w 309, 3) := by decide +kernel
theorem dX10_digest_87 : decode cX10_digest 87 = .ok (.lload_n 1, 1) := by decide +kernel
theorem dX10_digest_88 : decode cX10_digest 88 = .ok (.lmul, 1) := by decide +kernel
theorem dX10_digest_89 : decode cX10_digest 89 = .ok (.aload_n 0, 1) := by decide +kernel
theorem dX10_digest_90 : decode cX10_digest 90 = .ok (.getfield 36, 3) := by decide +kernel
theorem dX10_digest_93 : decode cX10_digest 93 = .ok (.getfield 147, 3) := by decide +kernel
theorem dX10_digest_96 : decode cX10_digest 96 = .ok (.iload_n 3, 1) := by decide +kernel
theorem dX10_digest_97 : decode cX10_digest 97 = .ok (.aaload, 1) := by decide +kernel
theorem dX10_digest_98 : decode cX10_digest 98 = .ok (.iload 4, 2) := by decide +kernel
theorem dX10_digest_100 : decode cX10_digest 100 = .ok (.iaload, 1) := by decide +kernel
theorem dX10_digest_101 : decode cX10_digest 101 = .ok (.i2l, 1) := by decide +kernel
theorem dX10_digest_102 : decode cX10_digest 102 = .ok (.ladd, 1) := by decide +kernel
theorem dX10_digest_103 : decode cX10_digest 103 = .ok (.lstore_n 1, 1) := by decide +kernel
theorem dX10_digest_104 : decode cX10_digest 104 = .ok (.iinc 4 1, 3) := by decide +kernel
theorem dX10_digest_107 : decode cX10_digest 107 = .ok (.goto (-30), 3) := by decide +kernel
theorem dX10_digest_110 : decode cX10_digest 110 = .ok (.iinc 3 1, 3) := by decide +kernel
theorem dX10_digest_113 : decode cX10_digest 113 = .ok (.goto (-80), 3) := by decide +kernel
theorem dX10_digest_116 : decode cX10_digest 116 = .ok (.iconst 0, 1) := by decide +kernel
theorem dX10_digest_117 : decode cX10_digest 117 = .ok (.istore_n 3, 1) := by decide +kernel
theorem dX10_digest_118 : decode cX10_digest 118 = .ok (.iload_n 3, 1) := by decide +kernel
theorem dX10_digest_119 : decode cX10_digest 119 = .ok (.iconst 3, 1) := by decide +kernel
theorem dX10_digest_120 : decode cX10_digest 120 = .ok (.if_icmp .ge 26, 3) := by decide +kernel
theorem dX10_digest_123 : decode cX10_digest 123 = .ok (.ldc2_w 309, 3) := by decide +kernel
theorem dX10_digest_126 : decode cX10_digest 126 = .ok (.lload_n 1, 1) := by decide +kernel
theorem dX10_digest_127 : decode cX10_digest 127 = .ok (.lmul, 1) := by decide +kernel
theorem dX10_digest_128 : decode cX10_digest 128 = .ok (.aload_n 0, 1) := by decide +kernel
theorem dX10_digest_129 : decode cX10_digest 129 = .ok (.getfield 56, 3) := by decide +kernel
theorem dX10_digest_132 : decode cX10_digest 132 = .ok (.iload_n 3, 1) := by decide +kernel
theorem dX10_digest_133 : decode cX10_digest 133 = .ok (.aaload, 1) := by decide +kernel
theorem dX10_digest_134 : decode cX10_digest 134 = .ok (.getfield 83, 3) := by decide +kernel
theorem dX10_digest_137 : decode cX10_digest 137 = .ok (.i2l, 1) := by decide +kernel
theorem dX10_digest_138 : decode cX10_digest 138 = .ok (.ladd, 1) := by decide +kernel
theorem dX10_digest_139 : decode cX10_digest 139 = .ok (.lstore_n 1, 1) := by decide +kernel
theorem dX10_digest_140 : decode cX10_digest 140 = .ok (.iinc 3 1, 3) := by decide +kernel
theorem dX10_digest_143 : decode cX10_digest 143 = .ok (.goto (-25), 3) := by decide +kernel
theorem dX10_digest_146 : decode cX10_digest 146 = .ok (.iconst 0, 1) := by decide +kernel
theorem dX10_digest_147 : decode cX10_digest 147 = .ok (.istore_n 3, 1) := by decide +kernel
theorem dX10_digest_148 : decode cX10_digest 148 = .ok (.iload_n 3, 1) := by decide +kernel
theorem dX10_digest_149 : decode cX10_digest 149 = .ok (.bipush 6, 2) := by decide +kernel
theorem dX10_digest_151 : decode cX10_digest 151 = .ok (.if_icmp .ge 60, 3) := by decide +kernel
theorem dX10_digest_154 : decode cX10_digest 154 = .ok (.ldc2_w 309, 3) := by decide +kernel
theorem dX10_digest_157 : decode cX10_digest 157 = .ok (.lload_n 1, 1) := by decide +kernel
theorem dX10_digest_158 : decode cX10_digest 158 = .ok (.lmul, 1) := by decide +kernel
theorem dX10_digest_159 : decode cX10_digest 159 = .ok (.aload_n 0, 1) := by decide +kernel
theorem dX10_digest_160 : decode cX10_digest 160 = .ok (.getfield 14, 3) := by decide +kernel
theorem dX10_digest_163 : decode cX10_digest 163 = .ok (.iload_n 3, 1) := by decide +kernel
theorem dX10_digest_164 : decode cX10_digest 164 = .ok (.iaload, 1) := by decide +kernel
theorem dX10_digest_165 : decode cX10_digest 165 = .ok (.i2l, 1) := by decide +kernel
theorem dX10_digest_166 : decode cX10_digest 166 = .ok (.ladd, 1) := by decide +kernel
theorem dX10_digest_167 : decode cX10_digest 167 = .ok (.lstore_n 1, 1) := by decide +kernel
theorem dX10_digest_168 : decode cX10_digest 168 = .ok (.iconst 0, 1) := by decide +kernel
theorem dX10_digest_169 : decode cX10_digest 169 = .ok (.istore 4, 2) := by decide +kernel
theorem dX10_digest_171 : decode cX10_digest 171 = .ok (.iload 4, 2) := by decide +kernel
theorem dX10_digest_173 : decode cX10_digest 173 = .ok (.aload_n 0, 1) := by decide +kernel
theorem dX10_digest_174 : decode cX10_digest 174 = .ok (.getfield 14, 3) := by decide +kernel
theorem dX10_digest_177 : decode cX10_digest 177 = .ok (.iload_n 3, 1) := by decide +kernel
theorem dX10_digest_178 : decode cX10_digest 178 = .ok (.iaload, 1) := by decide +kernel
theorem dX10_digest_179 : decode cX10_digest 179 = .ok (.if_icmp .ge 26, 3) := by decide +kernel
theorem dX10_digest_182 : decode cX10_digest 182 = .ok (.ldc2_w 309, 3) := by decide +kernel
theorem dX10_digest_185 : decode cX10_digest 185 = .ok (.lload_n 1, 1) := by decide +kernel
theorem dX10_digest_186 : decode cX10_digest 186 = .ok (.lmul, 1) := by decide +kernel
theorem dX10_digest_187 : decode cX10_digest 187 = .ok (.aload_n 0, 1) := by decide +kernel
theorem dX10_digest_188 : decode cX10_digest 188 = .ok (.getfield 11, 3) := by decide +kernel
theorem dX10_digest_191 : decode cX10_digest 191 = .ok (.iload_n 3, 1) := by decide +kernel
theorem dX10_digest_192 : decode cX10_digest 192 = .ok (.aaload, 1) := by decide +kernel
theorem dX10_digest_193 : decode cX10_digest 193 = .ok (.iload 4, 2) := by decide +kernel
theorem dX10_digest_195 : decode cX10_digest 195 = .ok (.iaload, 1) := by decide +kernel
theorem dX10_digest_196 : decode cX10_digest 196 = .ok (.i2l, 1) := by decide +kernel
theorem dX10_digest_197 : decode cX10_digest 197 = .ok (.ladd, 1) := by decide +kernel
theorem dX10_digest_198 : decode cX10_digest 198 = .ok (.lstore_n 1, 1) := by decide +kernel
theorem dX10_digest_199 : decode cX10_digest 199 = .ok (.iinc 4 1, 3) := by decide +kernel
theorem dX10_digest_202 : decode cX10_digest 202 = .ok (.goto (-31), 3) := by decide +kernel
theorem dX10_digest_205 : decode cX10_digest 205 = .ok (.iinc 3 1, 3) := by decide +kernel
theorem dX10_digest_208 : decode cX10_digest 208 = .ok (.goto (-60), 3) := by decide +kernel
theorem dX10_digest_211 : decode cX10_digest 211 = .ok (.iconst 0, 1) := by decide +kernel
theorem dX10_digest_212 : decode cX10_digest 212 = .ok (.istore_n 3, 1) := by decide +kernel
theorem dX10_digest_213 : decode cX10_digest 213 = .ok (.iload_n 3, 1) := by decide +kernel
theorem dX10_digest_214 : decode cX10_digest 214 = .ok (.iconst 4, 1) := by decide +kernel
theorem dX10_digest_215 : decode cX10_digest 215 = .ok (.if_icmp .ge 60, 3) := by decide +kernel
theorem dX10_digest_218 : decode cX10_digest 218 = .ok (.ldc2_w 309, 3) := by decide +kernel
theorem dX10_digest_221 : decode cX10_digest 221 = .ok (.lload_n 1, 1) := by decide +kernel
theorem dX10_digest_222 : decode cX10_digest 222 = .ok (.lmul, 1) := by decide +kernel
theorem dX10_digest_223 : decode cX10_digest 223 = .ok (.aload_n 0, 1) := by decide +kernel
theorem dX10_digest_224 : decode cX10_digest 224 = .ok (.getfield 23, 3) := by decide +kernel
theorem dX10_digest_227 : decode cX10_digest 227 = .ok (.iload_n 3, 1) := by decide +kernel
theorem dX10_digest_228 : decode cX10_digest 228 = .ok (.iaload, 1) := by decide +kernel
theorem dX10_digest_229 : decode cX10_digest 229 = .ok (.i2l, 1) := by decide +kernel
theorem dX10_digest_230 : decode cX10_digest 230 = .ok (.ladd, 1) := by decide +kernel
theorem dX10_digest_231 : decode cX10_digest 231 = .ok (.lstore_n 1, 1) := by decide +kernel
theorem dX10_digest_232 : decode cX10_digest 232 = .ok (.iconst 0, 1) := by decide +kernel
theorem dX10_digest_233 : decode cX10_digest 233 = .ok (.istore 4, 2) := by decide +kernel
theorem dX10_digest_235 : decode cX10_digest 235 = .ok (.iload 4, 2) := by decide +kernel
theorem dX10_digest_237 : decode cX10_digest 237 = .ok (.aload_n 0, 1) := by decide +kernel
theorem dX10_digest_238 : decode cX10_digest 238 = .ok (.getfield 23, 3) := by decide +kernel
theorem dX10_digest_241 : decode cX10_digest 241 = .ok (.iload_n 3, 1) := by decide +kernel
theorem dX10_digest_242 : decode cX10_digest 242 = .ok (.iaload, 1) := by decide +kernel
theorem dX10_digest_243 : decode cX10_digest 243 = .ok (.if_icmp .ge 26, 3) := by decide +kernel
theorem dX10_digest_246 : decode cX10_digest 246 = .ok (.ldc2_w 309, 3) := by decide +kernel
theorem dX10_digest_249 : decode cX10_digest 249 = .ok (.lload_n 1, 1) := by decide +kernel
theorem dX10_digest_250 : decode cX10_digest 250 = .ok (.lmul, 1) := by decide +kernel
end
section
theorem dX10_digest_251 : decode cX10_digest 251 = .ok (.aload_n 0, 1) := by decide +kernel
theorem dX10_digest_252 : decode cX10_digest 252 = .ok (.getfield 20, 3) := by decide +kernel
theorem dX10_digest_255 : decode cX10_digest 255 = .ok (.iload_n 3, 1) := by decide +kernel
theorem dX10_digest_256 : decode cX10_digest 256 = .ok (.aaload, 1) := by decide +kernel
theorem dX10_digest_257 : decode cX10_digest 257 = .ok (.iload 4, 2) := by decide +kernel
theorem dX10_digest_259 : decode cX10_digest 259 = .ok (.baload, 1) := by decide +kernel
theorem dX10_digest_260 : decode cX10_digest 260 = .ok (.i2l, 1) := by decide +kernel
theorem dX10_digest_261 : decode cX10_digest 261 = .ok (.ladd, 1) := by decide +kernel
theorem dX10_digest_262 : decode cX10_digest 262 = .ok (.lstore_n 1, 1) := by decide +kernel
theorem dX10_digest_263 : decode cX10_digest 263 = .ok (.iinc 4 1, 3) := by decide +kernel
theorem dX10_digest_266 : decode cX10_digest 266 = .ok (.goto (-31), 3) := by decide +kernel
theorem dX10_digest_269 : decode cX10_digest 269 = .ok (.iinc 3 1, 3) := by decide +kernel
theorem dX10_digest_272 : decode cX10_digest 272 = .ok (.goto (-59), 3) := by decide +kernel
theorem dX10_digest_275 : decode cX10_digest 275 = .ok (.lload_n 1, 1) := by decide +kernel
theorem dX10_digest_276 : decode cX10_digest 276 = .ok (.lreturn, 1) := by decide +kernel
theorem dX10_found_0 : decode cX10_found 0 = .ok (.aload_n 0, 1) := by decide +kernel
theorem dX10_found_1 : decode cX10_found 1 = .ok (.iload_n 1, 1) := by decide +kernel
theorem dX10_found_2 : decode cX10_found 2 = .ok (.putfield 304, 3) := by decide +kernel
theorem dX10_found_5 : decode cX10_found 5 = .ok (.aload_n 0, 1) := by decide +kernel
theorem dX10_found_6 : decode cX10_found 6 = .ok (.getfield 74, 3) := by decide +kernel
theorem dX10_found_9 : decode cX10_found 9 = .ok (.iload_n 1, 1) := by decide +kernel
theorem dX10_found_10 : decode cX10_found 10 = .ok (.dup2, 1) := by decide +kernel
theorem dX10_found_11 : decode cX10_found 11 = .ok (.iaload, 1) := by decide +kernel
theorem dX10_found_12 : decode cX10_found 12 = .ok (.iconst 1, 1) := by decide +kernel
theorem dX10_found_13 : decode cX10_found 13 = .ok (.iadd, 1) := by decide +kernel
theorem dX10_found_14 : decode cX10_found 14 = .ok (.iastore, 1) := by decide +kernel
theorem dX10_found_15 : decode cX10_found 15 = .ok (.bipush (-3), 2) := by decide +kernel
theorem dX10_found_17 : decode cX10_found 17 = .ok (.ireturn, 1) := by decide +kernel
theorem dX10_isRow_0 : decode cX10_isRow 0 = .ok (.iload_n 1, 1) := by decide +kernel
theorem dX10_isRow_1 : decode cX10_isRow 1 = .ok (.ifCond .lt 13, 3) := by decide +kernel
theorem dX10_isRow_4 : decode cX10_isRow 4 = .ok (.iload_n 1, 1) := by decide +kernel
theorem dX10_isRow_5 : decode cX10_isRow 5 = .ok (.bipush 6, 2) := by decide +kernel
theorem dX10_isRow_7 : decode cX10_isRow 7 = .ok (.if_icmp .ge 7, 3) := by decide +kernel
theorem dX10_isRow_10 : decode cX10_isRow 10 = .ok (.iconst 1, 1) := by decide +kernel
theorem dX10_isRow_11 : decode cX10_isRow 11 = .ok (.goto 4, 3) := by decide +kernel
theorem dX10_isRow_14 : decode cX10_isRow 14 = .ok (.iconst 0, 1) := by decide +kernel
theorem dX10_isRow_15 : decode cX10_isRow 15 = .ok (.ireturn, 1) := by decide +kernel
theorem dX10_isText_0 : decode cX10_isText 0 = .ok (.iload_n 1, 1) := by decide +kernel
theorem dX10_isText_1 : decode cX10_isText 1 = .ok (.ifCond .lt 12, 3) := by decide +kernel
theorem dX10_isText_4 : decode cX10_isText 4 = .ok (.iload_n 1, 1) := by decide +kernel
theorem dX10_isText_5 : decode cX10_isText 5 = .ok (.iconst 4, 1) := by decide +kernel
theorem dX10_isText_6 : decode cX10_isText 6 = .ok (.if_icmp .ge 7, 3) := by decide +kernel
theorem dX10_isText_9 : decode cX10_isText 9 = .ok (.iconst 1, 1) := by decide +kernel
theorem dX10_isText_10 : decode cX10_isText 10 = .ok (.goto 4, 3) := by decide +kernel
theorem dX10_isText_13 : decode cX10_isText 13 = .ok (.iconst 0, 1) := by decide +kernel
theorem dX10_isText_14 : decode cX10_isText 14 = .ok (.ireturn, 1) := by decide +kernel
theorem dX10_isPlayer_0 : decode cX10_isPlayer 0 = .ok (.iload_n 1, 1) := by decide +kernel
theorem dX10_isPlayer_1 : decode cX10_isPlayer 1 = .ok (.ifCond .lt 18, 3) := by decide +kernel
theorem dX10_isPlayer_4 : decode cX10_isPlayer 4 = .ok (.iload_n 1, 1) := by decide +kernel
theorem dX10_isPlayer_5 : decode cX10_isPlayer 5 = .ok (.aload_n 0, 1) := by decide +kernel
theorem dX10_isPlayer_6 : decode cX10_isPlayer 6 = .ok (.getfield 36, 3) := by decide +kernel
theorem dX10_isPlayer_9 : decode cX10_isPlayer 9 = .ok (.getfield 135, 3) := by decide +kernel
theorem dX10_isPlayer_12 : decode cX10_isPlayer 12 = .ok (.if_icmp .ge 7, 3) := by decide +kernel
theorem dX10_isPlayer_15 : decode cX10_isPlayer 15 = .ok (.iconst 1, 1) := by decide +kernel
theorem dX10_isPlayer_16 : decode cX10_isPlayer 16 = .ok (.goto 4, 3) := by decide +kernel
theorem dX10_isPlayer_19 : decode cX10_isPlayer 19 = .ok (.iconst 0, 1) := by decide +kernel
theorem dX10_isPlayer_20 : decode cX10_isPlayer 20 = .ok (.ireturn, 1) := by decide +kernel
theorem dX10_isPlace_0 : decode cX10_isPlace 0 = .ok (.iload_n 1, 1) := by decide +kernel
theorem dX10_isPlace_1 : decode cX10_isPlace 1 = .ok (.ifCond .lt 13, 3) := by decide +kernel
theorem dX10_isPlace_4 : decode cX10_isPlace 4 = .ok (.iload_n 1, 1) := by decide +kernel
theorem dX10_isPlace_5 : decode cX10_isPlace 5 = .ok (.bipush 6, 2) := by decide +kernel
theorem dX10_isPlace_7 : decode cX10_isPlace 7 = .ok (.if_icmp .ge 7, 3) := by decide +kernel
theorem dX10_isPlace_10 : decode cX10_isPlace 10 = .ok (.iconst 1, 1) := by decide +kernel
theorem dX10_isPlace_11 : decode cX10_isPlace 11 = .ok (.goto 4, 3) := by decide +kernel
theorem dX10_isPlace_14 : decode cX10_isPlace 14 = .ok (.iconst 0, 1) := by decide +kernel
theorem dX10_isPlace_15 : decode cX10_isPlace 15 = .ok (.ireturn, 1) := by decide +kernel
theorem dX10_isNumber_0 : decode cX10_isNumber 0 = .ok (.iload_n 1, 1) := by decide +kernel
theorem dX10_isNumber_1 : decode cX10_isNumber 1 = .ok (.iconst 1, 1) := by decide +kernel
theorem dX10_isNumber_2 : decode cX10_isNumber 2 = .ok (.if_icmp .lt 13, 3) := by decide +kernel
theorem dX10_isNumber_5 : decode cX10_isNumber 5 = .ok (.iload_n 1, 1) := by decide +kernel
theorem dX10_isNumber_6 : decode cX10_isNumber 6 = .ok (.bipush 12, 2) := by decide +kernel
theorem dX10_isNumber_8 : decode cX10_isNumber 8 = .ok (.if_icmp .gt 7, 3) := by decide +kernel
theorem dX10_isNumber_11 : decode cX10_isNumber 11 = .ok (.iconst 1, 1) := by decide +kernel
theorem dX10_isNumber_12 : decode cX10_isNumber 12 = .ok (.goto 4, 3) := by decide +kernel
theorem dX10_isNumber_15 : decode cX10_isNumber 15 = .ok (.iconst 0, 1) := by decide +kernel
theorem dX10_isNumber_16 : decode cX10_isNumber 16 = .ok (.ireturn, 1) := by decide +kernel
theorem dX10_isKeptPlace_0 : decode cX10_isKeptPlace 0 = .ok (.iload_n 1, 1) := by decide +kernel
theorem dX10_isKeptPlace_1 : decode cX10_isKeptPlace 1 = .ok (.ifCond .lt 12, 3) := by decide +kernel
theorem dX10_isKeptPlace_4 : decode cX10_isKeptPlace 4 = .ok (.iload_n 1, 1) := by decide +kernel
theorem dX10_isKeptPlace_5 : decode cX10_isKeptPlace 5 = .ok (.iconst 3, 1) := by decide +kernel
theorem dX10_isKeptPlace_6 : decode cX10_isKeptPlace 6 = .ok (.if_icmp .ge 7, 3) := by decide +kernel
theorem dX10_isKeptPlace_9 : decode cX10_isKeptPlace 9 = .ok (.iconst 1, 1) := by decide +kernel
theorem dX10_isKeptPlace_10 : decode cX10_isKeptPlace 10 = .ok (.goto 4, 3) := by decide +kernel
theorem dX10_isKeptPlace_13 : decode cX10_isKeptPlace 13 = .ok (.iconst 0, 1) := by decide +kernel
theorem dX10_isKeptPlace_14 : decode cX10_isKeptPlace 14 = .ok (.ireturn, 1) := by decide +kernel
theorem dX10_refusedRow_0 : decode cX10_refusedRow 0 = .ok (.aload_n 0, 1) := by decide +kernel
theorem dX10_refusedRow_1 : decode cX10_refusedRow 1 = .ok (.iload_n 1, 1) := by decide +kernel
theorem dX10_refusedRow_2 : decode cX10_refusedRow 2 = .ok (.invokevirtual 87, 3) := by decide +kernel
theorem dX10_refusedRow_5 : decode cX10_refusedRow 5 = .ok (.ifCond .ne 5, 3) := by decide +kernel
theorem dX10_refusedRow_8 : decode cX10_refusedRow 8 = .ok (.iconst (-1), 1) := by decide +kernel
theorem dX10_refusedRow_9 : decode cX10_refusedRow 9 = .ok (.ireturn, 1) := by decide +kernel
theorem dX10_refusedRow_10 : decode cX10_refusedRow 10 = .ok (.aload_n 0, 1) := by decide +kernel
theorem dX10_refusedRow_11 : decode cX10_refusedRow 11 = .ok (.getfield 14, 3) := by decide +kernel
theorem dX10_refusedRow_14 : decode cX10_refusedRow 14 = .ok (.iload_n 1, 1) := by decide +kernel
theorem dX10_refusedRow_15 : decode cX10_refusedRow 15 = .ok (.iaload, 1) := by decide +kernel
theorem dX10_refusedRow_16 : decode cX10_refusedRow 16 = .ok (.ifCond .ge 11, 3) := by decide +kernel
theorem dX10_refusedRow_19 : decode cX10_refusedRow 19 = .ok (.aload_n 0, 1) := by decide +kernel
theorem dX10_refusedRow_20 : decode cX10_refusedRow 20 = .ok (.iconst 1, 1) := by decide +kernel
theorem dX10_refusedRow_21 : decode cX10_refusedRow 21 = .ok (.invokevirtual 91, 3) := by decide +kernel
theorem dX10_refusedRow_24 : decode cX10_refusedRow 24 = .ok (.goto 4, 3) := by decide +kernel
theorem dX10_refusedRow_27 : decode cX10_refusedRow 27 = .ok (.iconst 0, 1) := by decide +kernel
theorem dX10_refusedRow_28 : decode cX10_refusedRow 28 = .ok (.ireturn, 1) := by decide +kernel
theorem dX10_refusedPlace_0 : decode cX10_refusedPlace 0 = .ok (.aload_n 0, 1) := by decide +kernel
theorem dX10_refusedPlace_1 : decode cX10_refusedPlace 1 = .ok (.iload_n 1, 1) := by decide +kernel
theorem dX10_refusedPlace_2 : decode cX10_refusedPlace 2 = .ok (.invokevirtual 102, 3) := by decide +kernel
theorem dX10_refusedPlace_5 : decode cX10_refusedPlace 5 = .ok (.istore_n 3, 1) := by decide +kernel
theorem dX10_refusedPlace_6 : decode cX10_refusedPlace 6 = .ok (.iload_n 3, 1) := by decide +kernel
theorem dX10_refusedPlace_7 : decode cX10_refusedPlace 7 = .ok (.ifCond .eq 5, 3) := by decide +kernel
theorem dX10_refusedPlace_10 : decode cX10_refusedPlace 10 = .ok (.iload_n 3, 1) := by decide +kernel
theorem dX10_refusedPlace_11 : decode cX10_refusedPlace 11 = .ok (.ireturn, 1) := by decide +kernel
theorem dX10_refusedPlace_12 : decode cX10_refusedPlace 12 = .ok (.iload_n 2, 1) := by decide +kernel
theorem dX10_refusedPlace_13 : decode cX10_refusedPlace 13 = .ok (.ifCond .lt 13, 3) := by decide +kernel
theorem dX10_refusedPlace_16 : decode cX10_refusedPlace 16 = .ok (.iload_n 2, 1) := by decide +kernel
theorem dX10_refusedPlace_17 : decode cX10_refusedPlace 17 = .ok (.aload_n 0, 1) := by decide +kernel
theorem dX10_refusedPlace_18 : decode cX10_refusedPlace 18 = .ok (.getfield 14, 3) := by decide +kernel
theorem dX10_refusedPlace_21 : decode cX10_refusedPlace 21 = .ok (.iload_n 1, 1) := by decide +kernel
theorem dX10_refusedPlace_22 : decode cX10_refusedPlace 22 = .ok (.iaload, 1) := by decide +kernel
theorem dX10_refusedPlace_23 : decode cX10_refusedPlace 23 = .ok (.if_icmp .lt 11, 3) := by decide +kernel
theorem dX10_refusedPlace_26 : decode cX10_refusedPlace 26 = .ok (.aload_n 0, 1) := by decide +kernel
theorem dX10_refusedPlace_27 : decode cX10_refusedPlace 27 = .ok (.iconst 2, 1) := by decide +kernel
theorem dX10_refusedPlace_28 : decode cX10_refusedPlace 28 = .ok (.invokevirtual 91, 3) := by decide +kernel
theorem dX10_refusedPlace_31 : decode cX10_refusedPlace 31 = .ok (.goto 4, 3) := by decide +kernel
theorem dX10_refusedPlace_34 : decode cX10_refusedPlace 34 = .ok (.iconst 0, 1) := by decide +kernel
theorem dX10_refusedPlace_35 : decode cX10_refusedPlace 35 = .ok (.ireturn, 1) := by decide +kernel
theorem dX10_refusedText_0 : decode cX10_refusedText 0 = .ok (.aload_n 0, 1) := by decide +kernel
theorem dX10_refusedText_1 : decode cX10_refusedText 1 = .ok (.iload_n 1, 1) := by decide +kernel
theorem dX10_refusedText_2 : decode cX10_refusedText 2 = .ok (.invokevirtual 115, 3) := by decide +kernel
theorem dX10_refusedText_5 : decode cX10_refusedText 5 = .ok (.ifCond .ne 5, 3) := by decide +kernel
theorem dX10_refusedText_8 : decode cX10_refusedText 8 = .ok (.iconst (-1), 1) := by decide +kernel
theorem dX10_refusedText_9 : decode cX10_refusedText 9 = .ok (.ireturn, 1) := by decide +kernel
theorem dX10_refusedText_10 : decode cX10_refusedText 10 = .ok (.aload_n 0, 1) := by decide +kernel
theorem dX10_refusedText_11 : decode cX10_refusedText 11 = .ok (.getfield 23, 3) := by decide +kernel
theorem dX10_refusedText_14 : decode cX10_refusedText 14 = .ok (.iload_n 1, 1) := by decide +kernel
theorem dX10_refusedText_15 : decode cX10_refusedText 15 = .ok (.iaload, 1) := by decide +kernel
theorem dX10_refusedText_16 : decode cX10_refusedText 16 = .ok (.ifCond .ge 11, 3) := by decide +kernel
theorem dX10_refusedText_19 : decode cX10_refusedText 19 = .ok (.aload_n 0, 1) := by decide +kernel
theorem dX10_refusedText_20 : decode cX10_refusedText 20 = .ok (.iconst 1, 1) := by decide +kernel
theorem dX10_refusedText_21 : decode cX10_refusedText 21 = .ok (.invokevirtual 91, 3) := by decide +kernel
theorem dX10_refusedText_24 : decode cX10_refusedText 24 = .ok (.goto 4, 3) := by decide +kernel
theorem dX10_refusedText_27 : decode cX10_refusedText 27 = .ok (.iconst 0, 1) := by decide +kernel
theorem dX10_refusedText_28 : decode cX10_refusedText 28 = .ok (.ireturn, 1) := by decide +kernel
theorem dX10_reaches_0 : decode cX10_reaches 0 = .ok (.iload_n 2, 1) := by decide +kernel
theorem dX10_reaches_1 : decode cX10_reaches 1 = .ok (.ifCond .lt 23, 3) := by decide +kernel
theorem dX10_reaches_4 : decode cX10_reaches 4 = .ok (.iload_n 2, 1) := by decide +kernel
theorem dX10_reaches_5 : decode cX10_reaches 5 = .ok (.i2l, 1) := by decide +kernel
theorem dX10_reaches_6 : decode cX10_reaches 6 = .ok (.iload_n 3, 1) := by decide +kernel
theorem dX10_reaches_7 : decode cX10_reaches 7 = .ok (.i2l, 1) := by decide +kernel
theorem dX10_reaches_8 : decode cX10_reaches 8 = .ok (.ladd, 1) := by decide +kernel
theorem dX10_reaches_9 : decode cX10_reaches 9 = .ok (.aload_n 0, 1) := by decide +kernel
theorem dX10_reaches_10 : decode cX10_reaches 10 = .ok (.getfield 14, 3) := by decide +kernel
theorem dX10_reaches_13 : decode cX10_reaches 13 = .ok (.iload_n 1, 1) := by decide +kernel
theorem dX10_reaches_14 : decode cX10_reaches 14 = .ok (.iaload, 1) := by decide +kernel
theorem dX10_reaches_15 : decode cX10_reaches 15 = .ok (.i2l, 1) := by decide +kernel
theorem dX10_reaches_16 : decode cX10_reaches 16 = .ok (.lcmp, 1) := by decide +kernel
theorem dX10_reaches_17 : decode cX10_reaches 17 = .ok (.ifCond .gt 7, 3) := by decide +kernel
theorem dX10_reaches_20 : decode cX10_reaches 20 = .ok (.iconst 1, 1) := by decide +kernel
theorem dX10_reaches_21 : decode cX10_reaches 21 = .ok (.goto 4, 3) := by decide +kernel
theorem dX10_reaches_24 : decode cX10_reaches 24 = .ok (.iconst 0, 1) := by decide +kernel
theorem dX10_reaches_25 : decode cX10_reaches 25 = .ok (.ireturn, 1) := by decide +kernel
theorem dX10_refusedPairs_0 : decode cX10_refusedPairs 0 = .ok (.aload_n 0, 1) := by decide +kernel
theorem dX10_refusedPairs_1 : decode cX10_refusedPairs 1 = .ok (.iload_n 1, 1) := by decide +kernel
theorem dX10_refusedPairs_2 : decode cX10_refusedPairs 2 = .ok (.invokevirtual 138, 3) := by decide +kernel
theorem dX10_refusedPairs_5 : decode cX10_refusedPairs 5 = .ok (.ifCond .ne 5, 3) := by decide +kernel
theorem dX10_refusedPairs_8 : decode cX10_refusedPairs 8 = .ok (.iconst (-1), 1) := by decide +kernel
theorem dX10_refusedPairs_9 : decode cX10_refusedPairs 9 = .ok (.ireturn, 1) := by decide +kernel
theorem dX10_refusedPairs_10 : decode cX10_refusedPairs 10 = .ok (.aload_n 0, 1) := by decide +kernel
theorem dX10_refusedPairs_11 : decode cX10_refusedPairs 11 = .ok (.iload_n 2, 1) := by decide +kernel
theorem dX10_refusedPairs_12 : decode cX10_refusedPairs 12 = .ok (.invokevirtual 102, 3) := by decide +kernel
theorem dX10_refusedPairs_15 : decode cX10_refusedPairs 15 = .ok (.istore_n 3, 1) := by decide +kernel
theorem dX10_refusedPairs_16 : decode cX10_refusedPairs 16 = .ok (.iload_n 3, 1) := by decide +kernel
theorem dX10_refusedPairs_17 : decode cX10_refusedPairs 17 = .ok (.ifCond .eq 5, 3) := by decide +kernel
theorem dX10_refusedPairs_20 : decode cX10_refusedPairs 20 = .ok (.iload_n 3, 1) := by decide +kernel
theorem dX10_refusedPairs_21 : decode cX10_refusedPairs 21 = .ok (.ireturn, 1) := by decide +kernel
theorem dX10_refusedPairs_22 : decode cX10_refusedPairs 22 = .ok (.aload_n 0, 1) := by decide +kernel
theorem dX10_refusedPairs_23 : decode cX10_refusedPairs 23 = .ok (.getfield 14, 3) := by decide +kernel
theorem dX10_refusedPairs_26 : decode cX10_refusedPairs 26 = .ok (.iload_n 2, 1) := by decide +kernel
theorem dX10_refusedPairs_27 : decode cX10_refusedPairs 27 = .ok (.iaload, 1) := by decide +kernel
theorem dX10_refusedPairs_28 : decode cX10_refusedPairs 28 = .ok (.istore 4, 2) := by decide +kernel
theorem dX10_refusedPairs_30 : decode cX10_refusedPairs 30 = .ok (.iload 4, 2) := by decide +kernel
theorem dX10_refusedPairs_32 : decode cX10_refusedPairs 32 = .ok (.iconst 2, 1) := by decide +kernel
theorem dX10_refusedPairs_33 : decode cX10_refusedPairs 33 = .ok (.irem, 1) := by decide +kernel
theorem dX10_refusedPairs_34 : decode cX10_refusedPairs 34 = .ok (.ifCond .ne 10, 3) := by decide +kernel
theorem dX10_refusedPairs_37 : decode cX10_refusedPairs 37 = .ok (.iload 4, 2) := by decide +kernel
theorem dX10_refusedPairs_39 : decode cX10_refusedPairs 39 = .ok (.bipush 16, 2) := by decide +kernel
theorem dX10_refusedPairs_41 : decode cX10_refusedPairs 41 = .ok (.if_icmp .le 9, 3) := by decide +kernel
theorem dX10_refusedPairs_44 : decode cX10_refusedPairs 44 = .ok (.aload_n 0, 1) := by decide +kernel
theorem dX10_refusedPairs_45 : decode cX10_refusedPairs 45 = .ok (.iconst 5, 1) := by decide +kernel
theorem dX10_refusedPairs_46 : decode cX10_refusedPairs 46 = .ok (.invokevirtual 91, 3) := by decide +kernel
theorem dX10_refusedPairs_49 : decode cX10_refusedPairs 49 = .ok (.ireturn, 1) := by decide +kernel
theorem dX10_refusedPairs_50 : decode cX10_refusedPairs 50 = .ok (.iconst 0, 1) := by decide +kernel
theorem dX10_refusedPairs_51 : decode cX10_refusedPairs 51 = .ok (.istore 5, 2) := by decide +kernel
theorem dX10_refusedPairs_53 : decode cX10_refusedPairs 53 = .ok (.iload 5, 2) := by decide +kernel
theorem dX10_refusedPairs_55 : decode cX10_refusedPairs 55 = .ok (.iconst 1, 1) := by decide +kernel
theorem dX10_refusedPairs_56 : decode cX10_refusedPairs 56 = .ok (.iadd, 1) := by decide +kernel
theorem dX10_refusedPairs_57 : decode cX10_refusedPairs 57 = .ok (.iload 4, 2) := by decide +kernel
theorem dX10_refusedPairs_59 : decode cX10_refusedPairs 59 = .ok (.if_icmp .ge 56, 3) := by decide +kernel
theorem dX10_refusedPairs_62 : decode cX10_refusedPairs 62 = .ok (.aload_n 0, 1) := by decide +kernel
theorem dX10_refusedPairs_63 : decode cX10_refusedPairs 63 = .ok (.getfield 11, 3) := by decide +kernel
theorem dX10_refusedPairs_66 : decode cX10_refusedPairs 66 = .ok (.iload_n 2, 1) := by decide +kernel
theorem dX10_refusedPairs_67 : decode cX10_refusedPairs 67 = .ok (.aaload, 1) := by decide +kernel
theorem dX10_refusedPairs_68 : decode cX10_refusedPairs 68 = .ok (.iload 5, 2) := by decide +kernel
theorem dX10_refusedPairs_70 : decode cX10_refusedPairs 70 = .ok (.iconst 1, 1) := by decide +kernel
theorem dX10_refusedPairs_71 : decode cX10_refusedPairs 71 = .ok (.iadd, 1) := by decide +kernel
theorem dX10_refusedPairs_72 : decode cX10_refusedPairs 72 = .ok (.iaload, 1) := by decide +kernel
theorem dX10_refusedPairs_73 : decode cX10_refusedPairs 73 = .ok (.istore 6, 2) := by decide +kernel
theorem dX10_refusedPairs_75 : decode cX10_refusedPairs 75 = .ok (.aload_n 0, 1) := by decide +kernel
theorem dX10_refusedPairs_76 : decode cX10_refusedPairs 76 = .ok (.aload_n 0, 1) := by decide +kernel
theorem dX10_refusedPairs_77 : decode cX10_refusedPairs 77 = .ok (.getfield 11, 3) := by decide +kernel
theorem dX10_refusedPairs_80 : decode cX10_refusedPairs 80 = .ok (.iload_n 2, 1) := by decide +kernel
theorem dX10_refusedPairs_81 : decode cX10_refusedPairs 81 = .ok (.aaload, 1) := by decide +kernel
theorem dX10_refusedPairs_82 : decode cX10_refusedPairs 82 = .ok (.iload 5, 2) := by decide +kernel
theorem dX10_refusedPairs_84 : decode cX10_refusedPairs 84 = .ok (.iaload, 1) := by decide +kernel
theorem dX10_refusedPairs_85 : decode cX10_refusedPairs 85 = .ok (.invokevirtual 188, 3) := by decide +kernel
theorem dX10_refusedPairs_88 : decode cX10_refusedPairs 88 = .ok (.ifCond .eq 15, 3) := by decide +kernel
theorem dX10_refusedPairs_91 : decode cX10_refusedPairs 91 = .ok (.iload 6, 2) := by decide +kernel
theorem dX10_refusedPairs_93 : decode cX10_refusedPairs 93 = .ok (.ifCond .lt 10, 3) := by decide +kernel
theorem dX10_refusedPairs_96 : decode cX10_refusedPairs 96 = .ok (.iload 6, 2) := by decide +kernel
theorem dX10_refusedPairs_98 : decode cX10_refusedPairs 98 = .ok (.bipush 6, 2) := by decide +kernel
theorem dX10_refusedPairs_100 : decode cX10_refusedPairs 100 = .ok (.if_icmp .le 9, 3) := by decide +kernel
theorem dX10_refusedPairs_103 : decode cX10_refusedPairs 103 = .ok (.aload_n 0, 1) := by decide +kernel
theorem dX10_refusedPairs_104 : decode cX10_refusedPairs 104 = .ok (.iconst 3, 1) := by decide +kernel
theorem dX10_refusedPairs_105 : decode cX10_refusedPairs 105 = .ok (.invokevirtual 91, 3) := by decide +kernel
theorem dX10_refusedPairs_108 : decode cX10_refusedPairs 108 = .ok (.ireturn, 1) := by decide +kernel
theorem dX10_refusedPairs_109 : decode cX10_refusedPairs 109 = .ok (.iinc 5 2, 3) := by decide +kernel
theorem dX10_refusedPairs_112 : decode cX10_refusedPairs 112 = .ok (.goto (-59), 3) := by decide +kernel
theorem dX10_refusedPairs_115 : decode cX10_refusedPairs 115 = .ok (.iconst 0, 1) := by decide +kernel
theorem dX10_refusedPairs_116 : decode cX10_refusedPairs 116 = .ok (.ireturn, 1) := by decide +kernel
theorem dX10_ofPlayer_0 : decode cX10_ofPlayer 0 = .ok (.aload_n 0, 1) := by decide +kernel
theorem dX10_ofPlayer_1 : decode cX10_ofPlayer 1 = .ok (.getfield 36, 3) := by decide +kernel
theorem dX10_ofPlayer_4 : decode cX10_ofPlayer 4 = .ok (.iload_n 1, 1) := by decide +kernel
theorem dX10_ofPlayer_5 : decode cX10_ofPlayer 5 = .ok (.invokevirtual 150, 3) := by decide +kernel
theorem dX10_ofPlayer_8 : decode cX10_ofPlayer 8 = .ok (.aload_n 0, 1) := by decide +kernel
theorem dX10_ofPlayer_9 : decode cX10_ofPlayer 9 = .ok (.getfield 45, 3) := by decide +kernel
theorem dX10_ofPlayer_12 : decode cX10_ofPlayer 12 = .ok (.getfield 156, 3) := by decide +kernel
theorem dX10_ofPlayer_15 : decode cX10_ofPlayer 15 = .ok (.iload_n 1, 1) := by decide +kernel
theorem dX10_ofPlayer_16 : decode cX10_ofPlayer 16 = .ok (.iaload, 1) := by decide +kernel
theorem dX10_ofPlayer_17 : decode cX10_ofPlayer 17 = .ok (.invokevirtual 314, 3) := by decide +kernel
theorem dX10_ofPlayer_20 : decode cX10_ofPlayer 20 = .ok (.istore_n 3, 1) := by decide +kernel
theorem dX10_ofPlayer_21 : decode cX10_ofPlayer 21 = .ok (.iload_n 2, 1) := by decide +kernel
theorem dX10_ofPlayer_22 : decode cX10_ofPlayer 22 = .ok (.tableswitch 72 0 3 #[30, 40, 50, 62], 30) := by decide +kernel
theorem dX10_ofPlayer_52 : decode cX10_ofPlayer 52 = .ok (.aload_n 0, 1) := by decide +kernel
theorem dX10_ofPlayer_53 : decode cX10_ofPlayer 53 = .ok (.getfield 36, 3) := by decide +kernel
theorem dX10_ofPlayer_56 : decode cX10_ofPlayer 56 = .ok (.getfield 250, 3) := by decide +kernel
theorem dX10_ofPlayer_59 : decode cX10_ofPlayer 59 = .ok (.iload_n 1, 1) := by decide +kernel
theorem dX10_ofPlayer_60 : decode cX10_ofPlayer 60 = .ok (.iaload, 1) := by decide +kernel
theorem dX10_ofPlayer_61 : decode cX10_ofPlayer 61 = .ok (.ireturn, 1) := by decide +kernel
theorem dX10_ofPlayer_62 : decode cX10_ofPlayer 62 = .ok (.aload_n 0, 1) := by decide +kernel
theorem dX10_ofPlayer_63 : decode cX10_ofPlayer 63 = .ok (.getfield 45, 3) := by decide +kernel
theorem dX10_ofPlayer_66 : decode cX10_ofPlayer 66 = .ok (.getfield 156, 3) := by decide +kernel
theorem dX10_ofPlayer_69 : decode cX10_ofPlayer 69 = .ok (.iload_n 1, 1) := by decide +kernel
theorem dX10_ofPlayer_70 : decode cX10_ofPlayer 70 = .ok (.iaload, 1) := by decide +kernel
theorem dX10_ofPlayer_71 : decode cX10_ofPlayer 71 = .ok (.ireturn, 1) := by decide +kernel
theorem dX10_ofPlayer_72 : decode cX10_ofPlayer 72 = .ok (.aload_n 0, 1) := by decide +kernel
theorem dX10_ofPlayer_73 : decode cX10_ofPlayer 73 = .ok (.getfield 45, 3) := by decide +kernel
theorem dX10_ofPlayer_76 : decode cX10_ofPlayer 76 = .ok (.getfield 223, 3) := by decide +kernel
theorem dX10_ofPlayer_79 : decode cX10_ofPlayer 79 = .ok (.iload_n 1, 1) := by decide +kernel
theorem dX10_ofPlayer_80 : decode cX10_ofPlayer 80 = .ok (.ishr, 1) := by decide +kernel
theorem dX10_ofPlayer_81 : decode cX10_ofPlayer 81 = .ok (.iconst 1, 1) := by decide +kernel
theorem dX10_ofPlayer_82 : decode cX10_ofPlayer 82 = .ok (.iand, 1) := by decide +kernel
theorem dX10_ofPlayer_83 : decode cX10_ofPlayer 83 = .ok (.ireturn, 1) := by decide +kernel
theorem dX10_ofPlayer_84 : decode cX10_ofPlayer 84 = .ok (.iload_n 3, 1) := by decide +kernel
theorem dX10_ofPlayer_85 : decode cX10_ofPlayer 85 = .ok (.ifCond .ne 7, 3) := by decide +kernel
theorem dX10_ofPlayer_88 : decode cX10_ofPlayer 88 = .ok (.iconst 1, 1) := by decide +kernel
theorem dX10_ofPlayer_89 : decode cX10_ofPlayer 89 = .ok (.goto 4, 3) := by decide +kernel
theorem dX10_ofPlayer_92 : decode cX10_ofPlayer 92 = .ok (.iconst 0, 1) := by decide +kernel
theorem dX10_ofPlayer_93 : decode cX10_ofPlayer 93 = .ok (.ireturn, 1) := by decide +kernel
theorem dX10_ofPlayer_94 : decode cX10_ofPlayer 94 = .ok (.iload_n 3, 1) := by decide +kernel
theorem dX10_ofPlayer_95 : decode cX10_ofPlayer 95 = .ok (.ireturn, 1) := by decide +kernel
theorem dX10_doCall_0 : decode cX10_doCall 0 = .ok (.aload_n 0, 1) := by decide +kernel
theorem dX10_doCall_1 : decode cX10_doCall 1 = .ok (.getfield 52, 3) := by decide +kernel
theorem dX10_doCall_4 : decode cX10_doCall 4 = .ok (.iload_n 1, 1) := by decide +kernel
theorem dX10_doCall_5 : decode cX10_doCall 5 = .ok (.invokevirtual 315, 3) := by decide +kernel
theorem dX10_doCall_8 : decode cX10_doCall 8 = .ok (.aload_n 0, 1) := by decide +kernel
theorem dX10_doCall_9 : decode cX10_doCall 9 = .ok (.getfield 45, 3) := by decide +kernel
theorem dX10_doCall_12 : decode cX10_doCall 12 = .ok (.iload_n 1, 1) := by decide +kernel
theorem dX10_doCall_13 : decode cX10_doCall 13 = .ok (.bipush 15, 2) := by decide +kernel
theorem dX10_doCall_15 : decode cX10_doCall 15 = .ok (.invokevirtual 220, 3) := by decide +kernel
theorem dX10_doCall_18 : decode cX10_doCall 18 = .ok (.ireturn, 1) := by decide +kernel
theorem dX10_doRub_0 : decode cX10_doRub 0 = .ok (.aload_n 0, 1) := by decide +kernel
theorem dX10_doRub_1 : decode cX10_doRub 1 = .ok (.getfield 52, 3) := by decide +kernel
theorem dX10_doRub_4 : decode cX10_doRub 4 = .ok (.bipush 16, 2) := by decide +kernel
theorem dX10_doRub_6 : decode cX10_doRub 6 = .ok (.iload_n 1, 1) := by decide +kernel
theorem dX10_doRub_7 : decode cX10_doRub 7 = .ok (.bipush 6, 2) := by decide +kernel
theorem dX10_doRub_9 : decode cX10_doRub 9 = .ok (.imul, 1) := by decide +kernel
theorem dX10_doRub_10 : decode cX10_doRub 10 = .ok (.iadd, 1) := by decide +kernel
theorem dX10_doRub_11 : decode cX10_doRub 11 = .ok (.iload_n 2, 1) := by decide +kernel
theorem dX10_doRub_12 : decode cX10_doRub 12 = .ok (.iadd, 1) := by decide +kernel
theorem dX10_doRub_13 : decode cX10_doRub 13 = .ok (.invokevirtual 315, 3) := by decide +kernel
theorem dX10_doRub_16 : decode cX10_doRub 16 = .ok (.aload_n 0, 1) := by decide +kernel
theorem dX10_doRub_17 : decode cX10_doRub 17 = .ok (.getfield 45, 3) := by decide +kernel
theorem dX10_doRub_20 : decode cX10_doRub 20 = .ok (.iload_n 1, 1) := by decide +kernel
theorem dX10_doRub_21 : decode cX10_doRub 21 = .ok (.iload_n 2, 1) := by decide +kernel
theorem dX10_doRub_22 : decode cX10_doRub 22 = .ok (.invokevirtual 318, 3) := by decide +kernel
theorem dX10_doRub_25 : decode cX10_doRub 25 = .ok (.return_, 1) := by decide +kernel
theorem dX10_doLot_0 : decode cX10_doLot 0 = .ok (.iload_n 1, 1) := by decide +kernel
theorem dX10_doLot_1 : decode cX10_doLot 1 = .ok (.bipush 8, 2) := by decide +kernel
theorem dX10_doLot_3 : decode cX10_doLot 3 = .ok (.idiv, 1) := by decide +kernel
theorem dX10_doLot_4 : decode cX10_doLot 4 = .ok (.bipush 8, 2) := by decide +kernel
theorem dX10_doLot_6 : decode cX10_doLot 6 = .ok (.irem, 1) := by decide +kernel
theorem dX10_doLot_7 : decode cX10_doLot 7 = .ok (.bipush 7, 2) := by decide +kernel
theorem dX10_doLot_9 : decode cX10_doLot 9 = .ok (.if_icmp .eq 13, 3) := by decide +kernel
theorem dX10_doLot_12 : decode cX10_doLot 12 = .ok (.aload_n 0, 1) := by decide +kernel
theorem dX10_doLot_13 : decode cX10_doLot 13 = .ok (.getfield 45, 3) := by decide +kernel
theorem dX10_doLot_16 : decode cX10_doLot 16 = .ok (.getfield 262, 3) := by decide +kernel
theorem dX10_doLot_19 : decode cX10_doLot 19 = .ok (.ifCond .ne 34, 3) := by decide +kernel
theorem dX10_doLot_22 : decode cX10_doLot 22 = .ok (.aload_n 0, 1) := by decide +kernel
theorem dX10_doLot_23 : decode cX10_doLot 23 = .ok (.getfield 36, 3) := by decide +kernel
theorem dX10_doLot_26 : decode cX10_doLot 26 = .ok (.getfield 135, 3) := by decide +kernel
theorem dX10_doLot_29 : decode cX10_doLot 29 = .ok (.ifCond .le 23, 3) := by decide +kernel
theorem dX10_doLot_32 : decode cX10_doLot 32 = .ok (.aload_n 0, 1) := by decide +kernel
theorem dX10_doLot_33 : decode cX10_doLot 33 = .ok (.iload_n 1, 1) := by decide +kernel
theorem dX10_doLot_34 : decode cX10_doLot 34 = .ok (.aload_n 0, 1) := by decide +kernel
theorem dX10_doLot_35 : decode cX10_doLot 35 = .ok (.getfield 36, 3) := by decide +kernel
theorem dX10_doLot_38 : decode cX10_doLot 38 = .ok (.getfield 135, 3) := by decide +kernel
theorem dX10_doLot_41 : decode cX10_doLot 41 = .ok (.irem, 1) := by decide +kernel
theorem dX10_doLot_42 : decode cX10_doLot 42 = .ok (.iload_n 1, 1) := by decide +kernel
theorem dX10_doLot_43 : decode cX10_doLot 43 = .ok (.bipush 64, 2) := by decide +kernel
theorem dX10_doLot_45 : decode cX10_doLot 45 = .ok (.idiv, 1) := by decide +kernel
theorem dX10_doLot_46 : decode cX10_doLot 46 = .ok (.bipush 6, 2) := by decide +kernel
theorem dX10_doLot_48 : decode cX10_doLot 48 = .ok (.irem, 1) := by decide +kernel
theorem dX10_doLot_49 : decode cX10_doLot 49 = .ok (.invokevirtual 197, 3) := by decide +kernel
theorem dX10_doLot_52 : decode cX10_doLot 52 = .ok (.return_, 1) := by decide +kernel
theorem dX10_doLot_53 : decode cX10_doLot 53 = .ok (.iload_n 1, 1) := by decide +kernel
theorem dX10_doLot_54 : decode cX10_doLot 54 = .ok (.bipush 12, 2) := by decide +kernel
theorem dX10_doLot_56 : decode cX10_doLot 56 = .ok (.irem, 1) := by decide +kernel
theorem dX10_doLot_57 : decode cX10_doLot 57 = .ok (.iconst 1, 1) := by decide +kernel
theorem dX10_doLot_58 : decode cX10_doLot 58 = .ok (.iadd, 1) := by decide +kernel
theorem dX10_doLot_59 : decode cX10_doLot 59 = .ok (.istore_n 2, 1) := by decide +kernel
theorem dX10_doLot_60 : decode cX10_doLot 60 = .ok (.iconst 0, 1) := by decide +kernel
theorem dX10_doLot_61 : decode cX10_doLot 61 = .ok (.istore_n 3, 1) := by decide +kernel
theorem dX10_doLot_62 : decode cX10_doLot 62 = .ok (.iload_n 3, 1) := by decide +kernel
theorem dX10_doLot_63 : decode cX10_doLot 63 = .ok (.bipush 12, 2) := by decide +kernel
theorem dX10_doLot_65 : decode cX10_doLot 65 = .ok (.if_icmp .ge 27, 3) := by decide +kernel
theorem dX10_doLot_68 : decode cX10_doLot 68 = .ok (.aload_n 0, 1) := by decide +kernel
theorem dX10_doLot_69 : decode cX10_doLot 69 = .ok (.getfield 45, 3) := by decide +kernel
theorem dX10_doLot_72 : decode cX10_doLot 72 = .ok (.iload_n 2, 1) := by decide +kernel
theorem dX10_doLot_73 : decode cX10_doLot 73 = .ok (.invokevirtual 191, 3) := by decide +kernel
theorem dX10_doLot_76 : decode cX10_doLot 76 = .ok (.ifCond .ne 16, 3) := by decide +kernel
theorem dX10_doLot_79 : decode cX10_doLot 79 = .ok (.iload_n 2, 1) := by decide +kernel
theorem dX10_doLot_80 : decode cX10_doLot 80 = .ok (.bipush 12, 2) := by decide +kernel
theorem dX10_doLot_82 : decode cX10_doLot 82 = .ok (.irem, 1) := by decide +kernel
theorem dX10_doLot_83 : decode cX10_doLot 83 = .ok (.iconst 1, 1) := by decide +kernel
theorem dX10_doLot_84 : decode cX10_doLot 84 = .ok (.iadd, 1) := by decide +kernel
theorem dX10_doLot_85 : decode cX10_doLot 85 = .ok (.istore_n 2, 1) := by decide +kernel
theorem dX10_doLot_86 : decode cX10_doLot 86 = .ok (.iinc 3 1, 3) := by decide +kernel
theorem dX10_doLot_89 : decode cX10_doLot 89 = .ok (.goto (-27), 3) := by decide +kernel
theorem dX10_doLot_92 : decode cX10_doLot 92 = .ok (.aload_n 0, 1) := by decide +kernel
theorem dX10_doLot_93 : decode cX10_doLot 93 = .ok (.iload_n 2, 1) := by decide +kernel
theorem dX10_doLot_94 : decode cX10_doLot 94 = .ok (.invokevirtual 194, 3) := by decide +kernel
theorem dX10_doLot_97 : decode cX10_doLot 97 = .ok (.pop, 1) := by decide +kernel
theorem dX10_doLot_98 : decode cX10_doLot 98 = .ok (.return_, 1) := by decide +kernel
theorem dX10_doAgain_0 : decode cX10_doAgain 0 = .ok (.aload_n 0, 1) := by decide +kernel
theorem dX10_doAgain_1 : decode cX10_doAgain 1 = .ok (.getfield 45, 3) := by decide +kernel
theorem dX10_doAgain_4 : decode cX10_doAgain 4 = .ok (.invokevirtual 132, 3) := by decide +kernel
theorem dX10_doAgain_7 : decode cX10_doAgain 7 = .ok (.iconst 0, 1) := by decide +kernel
theorem dX10_doAgain_8 : decode cX10_doAgain 8 = .ok (.istore_n 1, 1) := by decide +kernel
theorem dX10_doAgain_9 : decode cX10_doAgain 9 = .ok (.iload_n 1, 1) := by decide +kernel
theorem dX10_doAgain_10 : decode cX10_doAgain 10 = .ok (.aload_n 0, 1) := by decide +kernel
theorem dX10_doAgain_11 : decode cX10_doAgain 11 = .ok (.getfield 52, 3) := by decide +kernel
theorem dX10_doAgain_14 : decode cX10_doAgain 14 = .ok (.getfield 83, 3) := by decide +kernel
theorem dX10_doAgain_17 : decode cX10_doAgain 17 = .ok (.if_icmp .ge 60, 3) := by decide +kernel
theorem dX10_doAgain_20 : decode cX10_doAgain 20 = .ok (.aload_n 0, 1) := by decide +kernel
theorem dX10_doAgain_21 : decode cX10_doAgain 21 = .ok (.getfield 52, 3) := by decide +kernel
theorem dX10_doAgain_24 : decode cX10_doAgain 24 = .ok (.getfield 321, 3) := by decide +kernel
theorem dX10_doAgain_27 : decode cX10_doAgain 27 = .ok (.iload_n 1, 1) := by decide +kernel
theorem dX10_doAgain_28 : decode cX10_doAgain 28 = .ok (.iaload, 1) := by decide +kernel
theorem dX10_doAgain_29 : decode cX10_doAgain 29 = .ok (.istore_n 2, 1) := by decide +kernel
theorem dX10_doAgain_30 : decode cX10_doAgain 30 = .ok (.iload_n 2, 1) := by decide +kernel
theorem dX10_doAgain_31 : decode cX10_doAgain 31 = .ok (.bipush 16, 2) := by decide +kernel
theorem dX10_doAgain_33 : decode cX10_doAgain 33 = .ok (.if_icmp .ge 17, 3) := by decide +kernel
theorem dX10_doAgain_36 : decode cX10_doAgain 36 = .ok (.aload_n 0, 1) := by decide +kernel
theorem dX10_doAgain_37 : decode cX10_doAgain 37 = .ok (.getfield 45, 3) := by decide +kernel
theorem dX10_doAgain_40 : decode cX10_doAgain 40 = .ok (.iload_n 2, 1) := by decide +kernel
theorem dX10_doAgain_41 : decode cX10_doAgain 41 = .ok (.bipush 15, 2) := by decide +kernel
theorem dX10_doAgain_43 : decode cX10_doAgain 43 = .ok (.invokevirtual 220, 3) := by decide +kernel
theorem dX10_doAgain_46 : decode cX10_doAgain 46 = .ok (.pop, 1) := by decide +kernel
theorem dX10_doAgain_47 : decode cX10_doAgain 47 = .ok (.goto 24, 3) := by decide +kernel
theorem dX10_doAgain_50 : decode cX10_doAgain 50 = .ok (.aload_n 0, 1) := by decide +kernel
theorem dX10_doAgain_51 : decode cX10_doAgain 51 = .ok (.getfield 45, 3) := by decide +kernel
theorem dX10_doAgain_54 : decode cX10_doAgain 54 = .ok (.iload_n 2, 1) := by decide +kernel
theorem dX10_doAgain_55 : decode cX10_doAgain 55 = .ok (.bipush 16, 2) := by decide +kernel
theorem dX10_doAgain_57 : decode cX10_doAgain 57 = .ok (.isub, 1) := by decide +kernel
theorem dX10_doAgain_58 : decode cX10_doAgain 58 = .ok (.bipush 6, 2) := by decide +kernel
theorem dX10_doAgain_60 : decode cX10_doAgain 60 = .ok (.idiv, 1) := by decide +kernel
theorem dX10_doAgain_61 : decode cX10_doAgain 61 = .ok (.iload_n 2, 1) := by decide +kernel
theorem dX10_doAgain_62 : decode cX10_doAgain 62 = .ok (.bipush 16, 2) := by decide +kernel
theorem dX10_doAgain_64 : decode cX10_doAgain 64 = .ok (.isub, 1) := by decide +kernel
theorem dX10_doAgain_65 : decode cX10_doAgain 65 = .ok (.bipush 6, 2) := by decide +kernel
theorem dX10_doAgain_67 : decode cX10_doAgain 67 = .ok (.irem, 1) := by decide +kernel
theorem dX10_doAgain_68 : decode cX10_doAgain 68 = .ok (.invokevirtual 318, 3) := by decide +kernel
theorem dX10_doAgain_71 : decode cX10_doAgain 71 = .ok (.iinc 1 1, 3) := by decide +kernel
theorem dX10_doAgain_74 : decode cX10_doAgain 74 = .ok (.goto (-65), 3) := by decide +kernel
theorem dX10_doAgain_77 : decode cX10_doAgain 77 = .ok (.return_, 1) := by decide +kernel
theorem dX10_callsAhead_0 : decode cX10_callsAhead 0 = .ok (.aload_n 0, 1) := by decide +kernel
theorem dX10_callsAhead_1 : decode cX10_callsAhead 1 = .ok (.getfield 60, 3) := by decide +kernel
theorem dX10_callsAhead_4 : decode cX10_callsAhead 4 = .ok (.iconst 0, 1) := by decide +kernel
theorem dX10_callsAhead_5 : decode cX10_callsAhead 5 = .ok (.aaload, 1) := by decide +kernel
theorem dX10_callsAhead_6 : decode cX10_callsAhead 6 = .ok (.aload_n 0, 1) := by decide +kernel
theorem dX10_callsAhead_7 : decode cX10_callsAhead 7 = .ok (.getfield 45, 3) := by decide +kernel
theorem dX10_callsAhead_10 : decode cX10_callsAhead 10 = .ok (.invokevirtual 217, 3) := by decide +kernel
theorem dX10_callsAhead_13 : decode cX10_callsAhead 13 = .ok (.iload_n 1, 1) := by decide +kernel
theorem dX10_callsAhead_14 : decode cX10_callsAhead 14 = .ok (.iconst 4, 1) := by decide +kernel
theorem dX10_callsAhead_15 : decode cX10_callsAhead 15 = .ok (.invokestatic 324, 3) := by decide +kernel
theorem dX10_callsAhead_18 : decode cX10_callsAhead 18 = .ok (.aload_n 0, 1) := by decide +kernel
theorem dX10_callsAhead_19 : decode cX10_callsAhead 19 = .ok (.getfield 45, 3) := by decide +kernel
theorem dX10_callsAhead_22 : decode cX10_callsAhead 22 = .ok (.getfield 262, 3) := by decide +kernel
theorem dX10_callsAhead_25 : decode cX10_callsAhead 25 = .ok (.invokestatic 229, 3) := by decide +kernel
theorem dX10_callsAhead_28 : decode cX10_callsAhead 28 = .ok (.invokestatic 324, 3) := by decide +kernel
theorem dX10_callsAhead_31 : decode cX10_callsAhead 31 = .ok (.ireturn, 1) := by decide +kernel
theorem dX10_stepAhead_0 : decode cX10_stepAhead 0 = .ok (.aload_n 0, 1) := by decide +kernel
theorem dX10_stepAhead_1 : decode cX10_stepAhead 1 = .ok (.getfield 64, 3) := by decide +kernel
theorem dX10_stepAhead_4 : decode cX10_stepAhead 4 = .ok (.iload_n 1, 1) := by decide +kernel
theorem dX10_stepAhead_5 : decode cX10_stepAhead 5 = .ok (.iload_n 2, 1) := by decide +kernel
theorem dX10_stepAhead_6 : decode cX10_stepAhead 6 = .ok (.iastore, 1) := by decide +kernel
theorem dX10_stepAhead_7 : decode cX10_stepAhead 7 = .ok (.aload_n 0, 1) := by decide +kernel
theorem dX10_stepAhead_8 : decode cX10_stepAhead 8 = .ok (.getfield 60, 3) := by decide +kernel
theorem dX10_stepAhead_11 : decode cX10_stepAhead 11 = .ok (.iload_n 1, 1) := by decide +kernel
theorem dX10_stepAhead_12 : decode cX10_stepAhead 12 = .ok (.iconst 1, 1) := by decide +kernel
theorem dX10_stepAhead_13 : decode cX10_stepAhead 13 = .ok (.iadd, 1) := by decide +kernel
theorem dX10_stepAhead_14 : decode cX10_stepAhead 14 = .ok (.aaload, 1) := by decide +kernel
theorem dX10_stepAhead_15 : decode cX10_stepAhead 15 = .ok (.aload_n 0, 1) := by decide +kernel
theorem dX10_stepAhead_16 : decode cX10_stepAhead 16 = .ok (.getfield 60, 3) := by decide +kernel
theorem dX10_stepAhead_19 : decode cX10_stepAhead 19 = .ok (.iload_n 1, 1) := by decide +kernel
theorem dX10_stepAhead_20 : decode cX10_stepAhead 20 = .ok (.aaload, 1) := by decide +kernel
theorem dX10_stepAhead_21 : decode cX10_stepAhead 21 = .ok (.invokevirtual 217, 3) := by decide +kernel
theorem dX10_stepAhead_24 : decode cX10_stepAhead 24 = .ok (.aload_n 0, 1) := by decide +kernel
theorem dX10_stepAhead_25 : decode cX10_stepAhead 25 = .ok (.getfield 60, 3) := by decide +kernel
theorem dX10_stepAhead_28 : decode cX10_stepAhead 28 = .ok (.iload_n 1, 1) := by decide +kernel
theorem dX10_stepAhead_29 : decode cX10_stepAhead 29 = .ok (.iconst 1, 1) := by decide +kernel
theorem dX10_stepAhead_30 : decode cX10_stepAhead 30 = .ok (.iadd, 1) := by decide +kernel
theorem dX10_stepAhead_31 : decode cX10_stepAhead 31 = .ok (.aaload, 1) := by decide +kernel
theorem dX10_stepAhead_32 : decode cX10_stepAhead 32 = .ok (.iload_n 2, 1) := by decide +kernel
theorem dX10_stepAhead_33 : decode cX10_stepAhead 33 = .ok (.iload_n 3, 1) := by decide +kernel
theorem dX10_stepAhead_34 : decode cX10_stepAhead 34 = .ok (.invokevirtual 220, 3) := by decide +kernel
theorem dX10_stepAhead_37 : decode cX10_stepAhead 37 = .ok (.ireturn, 1) := by decide +kernel
theorem dX10_layTrail_0 : decode cX10_layTrail 0 = .ok (.aload_n 0, 1) := by decide +kernel
theorem dX10_layTrail_1 : decode cX10_layTrail 1 = .ok (.getfield 64, 3) := by decide +kernel
theorem dX10_layTrail_4 : decode cX10_layTrail 4 = .ok (.iconst 0, 1) := by decide +kernel
theorem dX10_layTrail_5 : decode cX10_layTrail 5 = .ok (.aload_n 0, 1) := by decide +kernel
theorem dX10_layTrail_6 : decode cX10_layTrail 6 = .ok (.getfield 11, 3) := by decide +kernel
theorem dX10_layTrail_9 : decode cX10_layTrail 9 = .ok (.iload_n 1, 1) := by decide +kernel
theorem dX10_layTrail_10 : decode cX10_layTrail 10 = .ok (.aaload, 1) := by decide +kernel
theorem dX10_layTrail_11 : decode cX10_layTrail 11 = .ok (.iconst 0, 1) := by decide +kernel
theorem dX10_layTrail_12 : decode cX10_layTrail 12 = .ok (.iload_n 2, 1) := by decide +kernel
theorem dX10_layTrail_13 : decode cX10_layTrail 13 = .ok (.invokestatic 109, 3) := by decide +kernel
theorem dX10_layTrail_16 : decode cX10_layTrail 16 = .ok (.aload_n 0, 1) := by decide +kernel
theorem dX10_layTrail_17 : decode cX10_layTrail 17 = .ok (.getfield 14, 3) := by decide +kernel
theorem dX10_layTrail_20 : decode cX10_layTrail 20 = .ok (.iload_n 1, 1) := by decide +kernel
theorem dX10_layTrail_21 : decode cX10_layTrail 21 = .ok (.iload_n 2, 1) := by decide +kernel
theorem dX10_layTrail_22 : decode cX10_layTrail 22 = .ok (.iastore, 1) := by decide +kernel
theorem dX10_layTrail_23 : decode cX10_layTrail 23 = .ok (.return_, 1) := by decide +kernel
theorem dX10_winsAhead_0 : decode cX10_winsAhead 0 = .ok (.aload_n 0, 1) := by decide +kernel
theorem dX10_winsAhead_1 : decode cX10_winsAhead 1 = .ok (.getfield 60, 3) := by decide +kernel
theorem dX10_winsAhead_4 : decode cX10_winsAhead 4 = .ok (.iload_n 2, 1) := by decide +kernel
theorem dX10_winsAhead_5 : decode cX10_winsAhead 5 = .ok (.aaload, 1) := by decide +kernel
theorem dX10_winsAhead_6 : decode cX10_winsAhead 6 = .ok (.astore 4, 2) := by decide +kernel
theorem dX10_winsAhead_8 : decode cX10_winsAhead 8 = .ok (.iload_n 2, 1) := by decide +kernel
theorem dX10_winsAhead_9 : decode cX10_winsAhead 9 = .ok (.iload_n 3, 1) := by decide +kernel
theorem dX10_winsAhead_10 : decode cX10_winsAhead 10 = .ok (.if_icmp .ge 8, 3) := by decide +kernel
theorem dX10_winsAhead_13 : decode cX10_winsAhead 13 = .ok (.iload_n 2, 1) := by decide +kernel
theorem dX10_winsAhead_14 : decode cX10_winsAhead 14 = .ok (.iconst 4, 1) := by decide +kernel
theorem dX10_winsAhead_15 : decode cX10_winsAhead 15 = .ok (.if_icmp .lt 10, 3) := by decide +kernel
theorem dX10_winsAhead_18 : decode cX10_winsAhead 18 = .ok (.aload 4, 2) := by decide +kernel
theorem dX10_winsAhead_20 : decode cX10_winsAhead 20 = .ok (.iload_n 1, 1) := by decide +kernel
theorem dX10_winsAhead_21 : decode cX10_winsAhead 21 = .ok (.invokevirtual 329, 3) := by decide +kernel
theorem dX10_winsAhead_24 : decode cX10_winsAhead 24 = .ok (.ireturn, 1) := by decide +kernel
theorem dX10_winsAhead_25 : decode cX10_winsAhead 25 = .ok (.iconst 1, 1) := by decide +kernel
theorem dX10_winsAhead_26 : decode cX10_winsAhead 26 = .ok (.istore 5, 2) := by decide +kernel
theorem dX10_winsAhead_28 : decode cX10_winsAhead 28 = .ok (.iload 5, 2) := by decide +kernel
theorem dX10_winsAhead_30 : decode cX10_winsAhead 30 = .ok (.bipush 12, 2) := by decide +kernel
theorem dX10_winsAhead_32 : decode cX10_winsAhead 32 = .ok (.if_icmp .gt 44, 3) := by decide +kernel
theorem dX10_winsAhead_35 : decode cX10_winsAhead 35 = .ok (.aload 4, 2) := by decide +kernel
theorem dX10_winsAhead_37 : decode cX10_winsAhead 37 = .ok (.iload 5, 2) := by decide +kernel
theorem dX10_winsAhead_39 : decode cX10_winsAhead 39 = .ok (.invokevirtual 191, 3) := by decide +kernel
theorem dX10_winsAhead_42 : decode cX10_winsAhead 42 = .ok (.ifCond .eq 28, 3) := by decide +kernel
theorem dX10_winsAhead_45 : decode cX10_winsAhead 45 = .ok (.aload_n 0, 1) := by decide +kernel
theorem dX10_winsAhead_46 : decode cX10_winsAhead 46 = .ok (.iload_n 2, 1) := by decide +kernel
theorem dX10_winsAhead_47 : decode cX10_winsAhead 47 = .ok (.iload 5, 2) := by decide +kernel
theorem dX10_winsAhead_49 : decode cX10_winsAhead 49 = .ok (.iconst 1, 1) := by decide +kernel
theorem dX10_winsAhead_50 : decode cX10_winsAhead 50 = .ok (.iload_n 1, 1) := by decide +kernel
theorem dX10_winsAhead_51 : decode cX10_winsAhead 51 = .ok (.ishl, 1) := by decide +kernel
theorem dX10_winsAhead_52 : decode cX10_winsAhead 52 = .ok (.invokevirtual 226, 3) := by decide +kernel
theorem dX10_winsAhead_55 : decode cX10_winsAhead 55 = .ok (.pop, 1) := by decide +kernel
theorem dX10_winsAhead_56 : decode cX10_winsAhead 56 = .ok (.aload_n 0, 1) := by decide +kernel
theorem dX10_winsAhead_57 : decode cX10_winsAhead 57 = .ok (.iload_n 1, 1) := by decide +kernel
theorem dX10_winsAhead_58 : decode cX10_winsAhead 58 = .ok (.iload_n 2, 1) := by decide +kernel
theorem dX10_winsAhead_59 : decode cX10_winsAhead 59 = .ok (.iconst 1, 1) := by decide +kernel
theorem dX10_winsAhead_60 : decode cX10_winsAhead 60 = .ok (.iadd, 1) := by decide +kernel
theorem dX10_winsAhead_61 : decode cX10_winsAhead 61 = .ok (.iload_n 3, 1) := by decide +kernel
theorem dX10_winsAhead_62 : decode cX10_winsAhead 62 = .ok (.invokevirtual 237, 3) := by decide +kernel
theorem dX10_winsAhead_65 : decode cX10_winsAhead 65 = .ok (.ifCond .eq 5, 3) := by decide +kernel
theorem dX10_winsAhead_68 : decode cX10_winsAhead 68 = .ok (.iconst 1, 1) := by decide +kernel
theorem dX10_winsAhead_69 : decode cX10_winsAhead 69 = .ok (.ireturn, 1) := by decide +kernel
theorem dX10_winsAhead_70 : decode cX10_winsAhead 70 = .ok (.iinc 5 1, 3) := by decide +kernel
theorem dX10_winsAhead_73 : decode cX10_winsAhead 73 = .ok (.goto (-45), 3) := by decide +kernel
theorem dX10_winsAhead_76 : decode cX10_winsAhead 76 = .ok (.iconst 0, 1) := by decide +kernel
theorem dX10_winsAhead_77 : decode cX10_winsAhead 77 = .ok (.ireturn, 1) := by decide +kernel
theorem dX10_gatherMost_0 : decode cX10_gatherMost 0 = .ok (.aload_n 0, 1) := by decide +kernel
theorem dX10_gatherMost_1 : decode cX10_gatherMost 1 = .ok (.getfield 60, 3) := by decide +kernel
theorem dX10_gatherMost_4 : decode cX10_gatherMost 4 = .ok (.iload_n 2, 1) := by decide +kernel
theorem dX10_gatherMost_5 : decode cX10_gatherMost 5 = .ok (.aaload, 1) := by decide +kernel
theorem dX10_gatherMost_6 : decode cX10_gatherMost 6 = .ok (.astore 4, 2) := by decide +kernel
theorem dX10_gatherMost_8 : decode cX10_gatherMost 8 = .ok (.iload_n 2, 1) := by decide +kernel
theorem dX10_gatherMost_9 : decode cX10_gatherMost 9 = .ok (.iload_n 3, 1) := by decide +kernel
theorem dX10_gatherMost_10 : decode cX10_gatherMost 10 = .ok (.if_icmp .ge 8, 3) := by decide +kernel
theorem dX10_gatherMost_13 : decode cX10_gatherMost 13 = .ok (.iload_n 2, 1) := by decide +kernel
theorem dX10_gatherMost_14 : decode cX10_gatherMost 14 = .ok (.iconst 4, 1) := by decide +kernel
theorem dX10_gatherMost_15 : decode cX10_gatherMost 15 = .ok (.if_icmp .lt 35, 3) := by decide +kernel
theorem dX10_gatherMost_18 : decode cX10_gatherMost 18 = .ok (.aload 4, 2) := by decide +kernel
theorem dX10_gatherMost_20 : decode cX10_gatherMost 20 = .ok (.getfield 223, 3) := by decide +kernel
theorem dX10_gatherMost_23 : decode cX10_gatherMost 23 = .ok (.invokestatic 229, 3) := by decide +kernel
theorem dX10_gatherMost_26 : decode cX10_gatherMost 26 = .ok (.istore 5, 2) := by decide +kernel
theorem dX10_gatherMost_28 : decode cX10_gatherMost 28 = .ok (.iload 5, 2) := by decide +kernel
theorem dX10_gatherMost_30 : decode cX10_gatherMost 30 = .ok (.aload_n 0, 1) := by decide +kernel
theorem dX10_gatherMost_31 : decode cX10_gatherMost 31 = .ok (.getfield 243, 3) := by decide +kernel
theorem dX10_gatherMost_34 : decode cX10_gatherMost 34 = .ok (.if_icmp .le 15, 3) := by decide +kernel
theorem dX10_gatherMost_37 : decode cX10_gatherMost 37 = .ok (.aload_n 0, 1) := by decide +kernel
theorem dX10_gatherMost_38 : decode cX10_gatherMost 38 = .ok (.iload 5, 2) := by decide +kernel
theorem dX10_gatherMost_40 : decode cX10_gatherMost 40 = .ok (.putfield 243, 3) := by decide +kernel
theorem dX10_gatherMost_43 : decode cX10_gatherMost 43 = .ok (.aload_n 0, 1) := by decide +kernel
theorem dX10_gatherMost_44 : decode cX10_gatherMost 44 = .ok (.iload_n 1, 1) := by decide +kernel
theorem dX10_gatherMost_45 : decode cX10_gatherMost 45 = .ok (.iload_n 2, 1) := by decide +kernel
theorem dX10_gatherMost_46 : decode cX10_gatherMost 46 = .ok (.invokevirtual 240, 3) := by decide +kernel
theorem dX10_gatherMost_49 : decode cX10_gatherMost 49 = .ok (.return_, 1) := by decide +kernel
theorem dX10_gatherMost_50 : decode cX10_gatherMost 50 = .ok (.iconst 1, 1) := by decide +kernel
theorem dX10_gatherMost_51 : decode cX10_gatherMost 51 = .ok (.istore 5, 2) := by decide +kernel
theorem dX10_gatherMost_53 : decode cX10_gatherMost 53 = .ok (.iload 5, 2) := by decide +kernel
theorem dX10_gatherMost_55 : decode cX10_gatherMost 55 = .ok (.bipush 12, 2) := by decide +kernel
theorem dX10_gatherMost_57 : decode cX10_gatherMost 57 = .ok (.if_icmp .gt 52, 3) := by decide +kernel
theorem dX10_gatherMost_60 : decode cX10_gatherMost 60 = .ok (.aload_n 0, 1) := by decide +kernel
theorem dX10_gatherMost_61 : decode cX10_gatherMost 61 = .ok (.getfield 243, 3) := by decide +kernel
theorem dX10_gatherMost_64 : decode cX10_gatherMost 64 = .ok (.aload_n 0, 1) := by decide +kernel
theorem dX10_gatherMost_65 : decode cX10_gatherMost 65 = .ok (.getfield 36, 3) := by decide +kernel
theorem dX10_gatherMost_68 : decode cX10_gatherMost 68 = .ok (.getfield 135, 3) := by decide +kernel
theorem dX10_gatherMost_71 : decode cX10_gatherMost 71 = .ok (.if_icmp .ge 38, 3) := by decide +kernel
theorem dX10_gatherMost_74 : decode cX10_gatherMost 74 = .ok (.aload 4, 2) := by decide +kernel
theorem dX10_gatherMost_76 : decode cX10_gatherMost 76 = .ok (.iload 5, 2) := by decide +kernel
theorem dX10_gatherMost_78 : decode cX10_gatherMost 78 = .ok (.invokevirtual 191, 3) := by decide +kernel
theorem dX10_gatherMost_81 : decode cX10_gatherMost 81 = .ok (.ifCond .eq 22, 3) := by decide +kernel
theorem dX10_gatherMost_84 : decode cX10_gatherMost 84 = .ok (.aload_n 0, 1) := by decide +kernel
theorem dX10_gatherMost_85 : decode cX10_gatherMost 85 = .ok (.iload_n 2, 1) := by decide +kernel
theorem dX10_gatherMost_86 : decode cX10_gatherMost 86 = .ok (.iload 5, 2) := by decide +kernel
theorem dX10_gatherMost_88 : decode cX10_gatherMost 88 = .ok (.bipush 15, 2) := by decide +kernel
theorem dX10_gatherMost_90 : decode cX10_gatherMost 90 = .ok (.invokevirtual 226, 3) := by decide +kernel
theorem dX10_gatherMost_93 : decode cX10_gatherMost 93 = .ok (.pop, 1) := by decide +kernel
theorem dX10_gatherMost_94 : decode cX10_gatherMost 94 = .ok (.aload_n 0, 1) := by decide +kernel
theorem dX10_gatherMost_95 : decode cX10_gatherMost 95 = .ok (.iload_n 1, 1) := by decide +kernel
theorem dX10_gatherMost_96 : decode cX10_gatherMost 96 = .ok (.iload_n 2, 1) := by decide +kernel
theorem dX10_gatherMost_97 : decode cX10_gatherMost 97 = .ok (.iconst 1, 1) := by decide +kernel
theorem dX10_gatherMost_98 : decode cX10_gatherMost 98 = .ok (.iadd, 1) := by decide +kernel
theorem dX10_gatherMost_99 : decode cX10_gatherMost 99 = .ok (.iload_n 3, 1) := by decide +kernel
theorem dX10_gatherMost_100 : decode cX10_gatherMost 100 = .ok (.invokevirtual 246, 3) := by decide +kernel
theorem dX10_gatherMost_103 : decode cX10_gatherMost 103 = .ok (.iinc 5 1, 3) := by decide +kernel
theorem dX10_gatherMost_106 : decode cX10_gatherMost 106 = .ok (.goto (-53), 3) := by decide +kernel
theorem dX10_gatherMost_109 : decode cX10_gatherMost 109 = .ok (.return_, 1) := by decide +kernel
theorem dX10_duelAhead_0 : decode cX10_duelAhead 0 = .ok (.aload_n 0, 1) := by decide +kernel
theorem dX10_duelAhead_1 : decode cX10_duelAhead 1 = .ok (.getfield 60, 3) := by decide +kernel
theorem dX10_duelAhead_4 : decode cX10_duelAhead 4 = .ok (.iload_n 3, 1) := by decide +kernel
theorem dX10_duelAhead_5 : decode cX10_duelAhead 5 = .ok (.aaload, 1) := by decide +kernel
theorem dX10_duelAhead_6 : decode cX10_duelAhead 6 = .ok (.astore 5, 2) := by decide +kernel
theorem dX10_duelAhead_8 : decode cX10_duelAhead 8 = .ok (.iload_n 3, 1) := by decide +kernel
theorem dX10_duelAhead_9 : decode cX10_duelAhead 9 = .ok (.iload 4, 2) := by decide +kernel
theorem dX10_duelAhead_11 : decode cX10_duelAhead 11 = .ok (.if_icmp .ge 8, 3) := by decide +kernel
theorem dX10_duelAhead_14 : decode cX10_duelAhead 14 = .ok (.iload_n 3, 1) := by decide +kernel
theorem dX10_duelAhead_15 : decode cX10_duelAhead 15 = .ok (.iconst 4, 1) := by decide +kernel
theorem dX10_duelAhead_16 : decode cX10_duelAhead 16 = .ok (.if_icmp .lt 17, 3) := by decide +kernel
theorem dX10_duelAhead_19 : decode cX10_duelAhead 19 = .ok (.aload 5, 2) := by decide +kernel
theorem dX10_duelAhead_21 : decode cX10_duelAhead 21 = .ok (.iload_n 1, 1) := by decide +kernel
theorem dX10_duelAhead_22 : decode cX10_duelAhead 22 = .ok (.invokevirtual 332, 3) := by decide +kernel
theorem dX10_duelAhead_25 : decode cX10_duelAhead 25 = .ok (.aload 5, 2) := by decide +kernel
theorem dX10_duelAhead_27 : decode cX10_duelAhead 27 = .ok (.iload_n 2, 1) := by decide +kernel
theorem dX10_duelAhead_28 : decode cX10_duelAhead 28 = .ok (.invokevirtual 332, 3) := by decide +kernel
theorem dX10_duelAhead_31 : decode cX10_duelAhead 31 = .ok (.isub, 1) := by decide +kernel
theorem dX10_duelAhead_32 : decode cX10_duelAhead 32 = .ok (.ireturn, 1) := by decide +kernel
theorem dX10_duelAhead_33 : decode cX10_duelAhead 33 = .ok (.iload_n 3, 1) := by decide +kernel
theorem dX10_duelAhead_34 : decode cX10_duelAhead 34 = .ok (.iconst 2, 1) := by decide +kernel
theorem dX10_duelAhead_35 : decode cX10_duelAhead 35 = .ok (.irem, 1) := by decide +kernel
theorem dX10_duelAhead_36 : decode cX10_duelAhead 36 = .ok (.ifCond .ne 7, 3) := by decide +kernel
theorem dX10_duelAhead_39 : decode cX10_duelAhead 39 = .ok (.iconst 1, 1) := by decide +kernel
theorem dX10_duelAhead_40 : decode cX10_duelAhead 40 = .ok (.goto 4, 3) := by decide +kernel
theorem dX10_duelAhead_43 : decode cX10_duelAhead 43 = .ok (.iconst 0, 1) := by decide +kernel
theorem dX10_duelAhead_44 : decode cX10_duelAhead 44 = .ok (.istore 6, 2) := by decide +kernel
theorem dX10_duelAhead_46 : decode cX10_duelAhead 46 = .ok (.iload 6, 2) := by decide +kernel
theorem dX10_duelAhead_48 : decode cX10_duelAhead 48 = .ok (.ifCond .eq 8, 3) := by decide +kernel
theorem dX10_duelAhead_51 : decode cX10_duelAhead 51 = .ok (.bipush (-100), 2) := by decide +kernel
theorem dX10_duelAhead_53 : decode cX10_duelAhead 53 = .ok (.goto 5, 3) := by decide +kernel
theorem dX10_duelAhead_56 : decode cX10_duelAhead 56 = .ok (.bipush 100, 2) := by decide +kernel
theorem dX10_duelAhead_58 : decode cX10_duelAhead 58 = .ok (.istore 7, 2) := by decide +kernel
theorem dX10_duelAhead_60 : decode cX10_duelAhead 60 = .ok (.iconst 1, 1) := by decide +kernel
theorem dX10_duelAhead_61 : decode cX10_duelAhead 61 = .ok (.istore 8, 2) := by decide +kernel
theorem dX10_duelAhead_63 : decode cX10_duelAhead 63 = .ok (.iload 8, 2) := by decide +kernel
theorem dX10_duelAhead_65 : decode cX10_duelAhead 65 = .ok (.bipush 12, 2) := by decide +kernel
theorem dX10_duelAhead_67 : decode cX10_duelAhead 67 = .ok (.if_icmp .gt 71, 3) := by decide +kernel
theorem dX10_duelAhead_70 : decode cX10_duelAhead 70 = .ok (.aload 5, 2) := by decide +kernel
theorem dX10_duelAhead_72 : decode cX10_duelAhead 72 = .ok (.iload 8, 2) := by decide +kernel
theorem dX10_duelAhead_74 : decode cX10_duelAhead 74 = .ok (.invokevirtual 191, 3) := by decide +kernel
theorem dX10_duelAhead_77 : decode cX10_duelAhead 77 = .ok (.ifCond .eq 55, 3) := by decide +kernel
theorem dX10_duelAhead_80 : decode cX10_duelAhead 80 = .ok (.aload_n 0, 1) := by decide +kernel
theorem dX10_duelAhead_81 : decode cX10_duelAhead 81 = .ok (.iload_n 3, 1) := by decide +kernel
theorem dX10_duelAhead_82 : decode cX10_duelAhead 82 = .ok (.iload 8, 2) := by decide +kernel
theorem dX10_duelAhead_84 : decode cX10_duelAhead 84 = .ok (.iconst 1, 1) := by decide +kernel
theorem dX10_duelAhead_85 : decode cX10_duelAhead 85 = .ok (.iload_n 1, 1) := by decide +kernel
theorem dX10_duelAhead_86 : decode cX10_duelAhead 86 = .ok (.ishl, 1) := by decide +kernel
theorem dX10_duelAhead_87 : decode cX10_duelAhead 87 = .ok (.iconst 1, 1) := by decide +kernel
theorem dX10_duelAhead_88 : decode cX10_duelAhead 88 = .ok (.iload_n 2, 1) := by decide +kernel
theorem dX10_duelAhead_89 : decode cX10_duelAhead 89 = .ok (.ishl, 1) := by decide +kernel
theorem dX10_duelAhead_90 : decode cX10_duelAhead 90 = .ok (.ior, 1) := by decide +kernel
theorem dX10_duelAhead_91 : decode cX10_duelAhead 91 = .ok (.invokevirtual 226, 3) := by decide +kernel
theorem dX10_duelAhead_94 : decode cX10_duelAhead 94 = .ok (.pop, 1) := by decide +kernel
theorem dX10_duelAhead_95 : decode cX10_duelAhead 95 = .ok (.aload_n 0, 1) := by decide +kernel
theorem dX10_duelAhead_96 : decode cX10_duelAhead 96 = .ok (.iload_n 1, 1) := by decide +kernel
theorem dX10_duelAhead_97 : decode cX10_duelAhead 97 = .ok (.iload_n 2, 1) := by decide +kernel
theorem dX10_duelAhead_98 : decode cX10_duelAhead 98 = .ok (.iload_n 3, 1) := by decide +kernel
theorem dX10_duelAhead_99 : decode cX10_duelAhead 99 = .ok (.iconst 1, 1) := by decide +kernel
theorem dX10_duelAhead_100 : decode cX10_duelAhead 100 = .ok (.iadd, 1) := by decide +kernel
theorem dX10_duelAhead_101 : decode cX10_duelAhead 101 = .ok (.iload 4, 2) := by decide +kernel
theorem dX10_duelAhead_103 : decode cX10_duelAhead 103 = .ok (.invokevirtual 268, 3) := by decide +kernel
theorem dX10_duelAhead_106 : decode cX10_duelAhead 106 = .ok (.istore 9, 2) := by decide +kernel
theorem dX10_duelAhead_108 : decode cX10_duelAhead 108 = .ok (.iload 6, 2) := by decide +kernel
theorem dX10_duelAhead_110 : decode cX10_duelAhead 110 = .ok (.ifCond .eq 13, 3) := by decide +kernel
theorem dX10_duelAhead_113 : decode cX10_duelAhead 113 = .ok (.iload 7, 2) := by decide +kernel
theorem dX10_duelAhead_115 : decode cX10_duelAhead 115 = .ok (.iload 9, 2) := by decide +kernel
theorem dX10_duelAhead_117 : decode cX10_duelAhead 117 = .ok (.invokestatic 335, 3) := by decide +kernel
theorem dX10_duelAhead_120 : decode cX10_duelAhead 120 = .ok (.goto 10, 3) := by decide +kernel
theorem dX10_duelAhead_123 : decode cX10_duelAhead 123 = .ok (.iload 7, 2) := by decide +kernel
theorem dX10_duelAhead_125 : decode cX10_duelAhead 125 = .ok (.iload 9, 2) := by decide +kernel
theorem dX10_duelAhead_127 : decode cX10_duelAhead 127 = .ok (.invokestatic 324, 3) := by decide +kernel
theorem dX10_duelAhead_130 : decode cX10_duelAhead 130 = .ok (.istore 7, 2) := by decide +kernel
theorem dX10_duelAhead_132 : decode cX10_duelAhead 132 = .ok (.iinc 8 1, 3) := by decide +kernel
theorem dX10_duelAhead_135 : decode cX10_duelAhead 135 = .ok (.goto (-72), 3) := by decide +kernel
theorem dX10_duelAhead_138 : decode cX10_duelAhead 138 = .ok (.iload 7, 2) := by decide +kernel
theorem dX10_duelAhead_140 : decode cX10_duelAhead 140 = .ok (.ireturn, 1) := by decide +kernel
theorem dX10_marksBy_0 : decode cX10_marksBy 0 = .ok (.aload_n 0, 1) := by decide +kernel
theorem dX10_marksBy_1 : decode cX10_marksBy 1 = .ok (.getfield 36, 3) := by decide +kernel
theorem dX10_marksBy_4 : decode cX10_marksBy 4 = .ok (.getfield 338, 3) := by decide +kernel
theorem dX10_marksBy_7 : decode cX10_marksBy 7 = .ok (.iload_n 1, 1) := by decide +kernel
theorem dX10_marksBy_8 : decode cX10_marksBy 8 = .ok (.aaload, 1) := by decide +kernel
theorem dX10_marksBy_9 : decode cX10_marksBy 9 = .ok (.iload_n 3, 1) := by decide +kernel
theorem dX10_marksBy_10 : decode cX10_marksBy 10 = .ok (.aload_n 0, 1) := by decide +kernel
theorem dX10_marksBy_11 : decode cX10_marksBy 11 = .ok (.getfield 45, 3) := by decide +kernel
theorem dX10_marksBy_14 : decode cX10_marksBy 14 = .ok (.getfield 177, 3) := by decide +kernel
theorem dX10_marksBy_17 : decode cX10_marksBy 17 = .ok (.aload_n 0, 1) := by decide +kernel
theorem dX10_marksBy_18 : decode cX10_marksBy 18 = .ok (.getfield 45, 3) := by decide +kernel
theorem dX10_marksBy_21 : decode cX10_marksBy 21 = .ok (.getfield 164, 3) := by decide +kernel
theorem dX10_marksBy_24 : decode cX10_marksBy 24 = .ok (.invokevirtual 211, 3) := by decide +kernel
theorem dX10_marksBy_27 : decode cX10_marksBy 27 = .ok (.istore 4, 2) := by decide +kernel
theorem dX10_marksBy_29 : decode cX10_marksBy 29 = .ok (.aload_n 0, 1) := by decide +kernel
theorem dX10_marksBy_30 : decode cX10_marksBy 30 = .ok (.getfield 36, 3) := by decide +kernel
theorem dX10_marksBy_33 : decode cX10_marksBy 33 = .ok (.iload_n 2, 1) := by decide +kernel
theorem dX10_marksBy_34 : decode cX10_marksBy 34 = .ok (.aload_n 0, 1) := by decide +kernel
theorem dX10_marksBy_35 : decode cX10_marksBy 35 = .ok (.getfield 45, 3) := by decide +kernel
theorem dX10_marksBy_38 : decode cX10_marksBy 38 = .ok (.getfield 156, 3) := by decide +kernel
theorem dX10_marksBy_41 : decode cX10_marksBy 41 = .ok (.iload_n 2, 1) := by decide +kernel
theorem dX10_marksBy_42 : decode cX10_marksBy 42 = .ok (.iaload, 1) := by decide +kernel
theorem dX10_marksBy_43 : decode cX10_marksBy 43 = .ok (.iload 4, 2) := by decide +kernel
theorem dX10_marksBy_45 : decode cX10_marksBy 45 = .ok (.invokevirtual 342, 3) := by decide +kernel
theorem dX10_marksBy_48 : decode cX10_marksBy 48 = .ok (.ireturn, 1) := by decide +kernel
theorem dX10_fittingKinds_0 : decode cX10_fittingKinds 0 = .ok (.iconst 0, 1) := by decide +kernel
theorem dX10_fittingKinds_1 : decode cX10_fittingKinds 1 = .ok (.istore_n 3, 1) := by decide +kernel
theorem dX10_fittingKinds_2 : decode cX10_fittingKinds 2 = .ok (.iconst 0, 1) := by decide +kernel
theorem dX10_fittingKinds_3 : decode cX10_fittingKinds 3 = .ok (.istore 4, 2) := by decide +kernel
theorem dX10_fittingKinds_5 : decode cX10_fittingKinds 5 = .ok (.iload 4, 2) := by decide +kernel
theorem dX10_fittingKinds_7 : decode cX10_fittingKinds 7 = .ok (.bipush 6, 2) := by decide +kernel
theorem dX10_fittingKinds_9 : decode cX10_fittingKinds 9 = .ok (.if_icmp .ge 27, 3) := by decide +kernel
theorem dX10_fittingKinds_12 : decode cX10_fittingKinds 12 = .ok (.aload_n 0, 1) := by decide +kernel
theorem dX10_fittingKinds_13 : decode cX10_fittingKinds 13 = .ok (.iload 4, 2) := by decide +kernel
theorem dX10_fittingKinds_15 : decode cX10_fittingKinds 15 = .ok (.iload_n 1, 1) := by decide +kernel
theorem dX10_fittingKinds_16 : decode cX10_fittingKinds 16 = .ok (.iload_n 2, 1) := by decide +kernel
theorem dX10_fittingKinds_17 : decode cX10_fittingKinds 17 = .ok (.invokevirtual 345, 3) := by decide +kernel
theorem dX10_fittingKinds_20 : decode cX10_fittingKinds 20 = .ok (.ifCond .eq 10, 3) := by decide +kernel
theorem dX10_fittingKinds_23 : decode cX10_fittingKinds 23 = .ok (.iload_n 3, 1) := by decide +kernel
theorem dX10_fittingKinds_24 : decode cX10_fittingKinds 24 = .ok (.iconst 1, 1) := by decide +kernel
theorem dX10_fittingKinds_25 : decode cX10_fittingKinds 25 = .ok (.iload 4, 2) := by decide +kernel
theorem dX10_fittingKinds_27 : decode cX10_fittingKinds 27 = .ok (.ishl, 1) := by decide +kernel
theorem dX10_fittingKinds_28 : decode cX10_fittingKinds 28 = .ok (.ior, 1) := by decide +kernel
theorem dX10_fittingKinds_29 : decode cX10_fittingKinds 29 = .ok (.istore_n 3, 1) := by decide +kernel
theorem dX10_fittingKinds_30 : decode cX10_fittingKinds 30 = .ok (.iinc 4 1, 3) := by decide +kernel
theorem dX10_fittingKinds_33 : decode cX10_fittingKinds 33 = .ok (.goto (-28), 3) := by decide +kernel
theorem dX10_fittingKinds_36 : decode cX10_fittingKinds 36 = .ok (.iload_n 3, 1) := by decide +kernel
theorem dX10_fittingKinds_37 : decode cX10_fittingKinds 37 = .ok (.ireturn, 1) := by decide +kernel
theorem dX10_fitsPairs_0 : decode cX10_fitsPairs 0 = .ok (.aload_n 0, 1) := by decide +kernel
theorem dX10_fitsPairs_1 : decode cX10_fitsPairs 1 = .ok (.getfield 45, 3) := by decide +kernel
theorem dX10_fitsPairs_4 : decode cX10_fitsPairs 4 = .ok (.getfield 156, 3) := by decide +kernel
theorem dX10_fitsPairs_7 : decode cX10_fitsPairs 7 = .ok (.iload_n 2, 1) := by decide +kernel
theorem dX10_fitsPairs_8 : decode cX10_fitsPairs 8 = .ok (.iaload, 1) := by decide +kernel
theorem dX10_fitsPairs_9 : decode cX10_fitsPairs 9 = .ok (.istore 4, 2) := by decide +kernel
theorem dX10_fitsPairs_11 : decode cX10_fitsPairs 11 = .ok (.aload_n 0, 1) := by decide +kernel
theorem dX10_fitsPairs_12 : decode cX10_fitsPairs 12 = .ok (.getfield 45, 3) := by decide +kernel
theorem dX10_fitsPairs_15 : decode cX10_fitsPairs 15 = .ok (.getfield 262, 3) := by decide +kernel
theorem dX10_fitsPairs_18 : decode cX10_fitsPairs 18 = .ok (.istore 5, 2) := by decide +kernel
theorem dX10_fitsPairs_20 : decode cX10_fitsPairs 20 = .ok (.aload_n 0, 1) := by decide +kernel
theorem dX10_fitsPairs_21 : decode cX10_fitsPairs 21 = .ok (.getfield 45, 3) := by decide +kernel
theorem dX10_fitsPairs_24 : decode cX10_fitsPairs 24 = .ok (.getfield 177, 3) := by decide +kernel
theorem dX10_fitsPairs_27 : decode cX10_fitsPairs 27 = .ok (.istore 6, 2) := by decide +kernel
theorem dX10_fitsPairs_29 : decode cX10_fitsPairs 29 = .ok (.aload_n 0, 1) := by decide +kernel
theorem dX10_fitsPairs_30 : decode cX10_fitsPairs 30 = .ok (.getfield 45, 3) := by decide +kernel
theorem dX10_fitsPairs_33 : decode cX10_fitsPairs 33 = .ok (.getfield 164, 3) := by decide +kernel
theorem dX10_fitsPairs_36 : decode cX10_fitsPairs 36 = .ok (.istore 7, 2) := by decide +kernel
theorem dX10_fitsPairs_38 : decode cX10_fitsPairs 38 = .ok (.iconst 0, 1) := by decide +kernel
theorem dX10_fitsPairs_39 : decode cX10_fitsPairs 39 = .ok (.istore 8, 2) := by decide +kernel
theorem dX10_fitsPairs_41 : decode cX10_fitsPairs 41 = .ok (.iload 8, 2) := by decide +kernel
theorem dX10_fitsPairs_43 : decode cX10_fitsPairs 43 = .ok (.iconst 1, 1) := by decide +kernel
theorem dX10_fitsPairs_44 : decode cX10_fitsPairs 44 = .ok (.iadd, 1) := by decide +kernel
theorem dX10_fitsPairs_45 : decode cX10_fitsPairs 45 = .ok (.aload_n 0, 1) := by decide +kernel
theorem dX10_fitsPairs_46 : decode cX10_fitsPairs 46 = .ok (.getfield 14, 3) := by decide +kernel
theorem dX10_fitsPairs_49 : decode cX10_fitsPairs 49 = .ok (.iload_n 3, 1) := by decide +kernel
theorem dX10_fitsPairs_50 : decode cX10_fitsPairs 50 = .ok (.iaload, 1) := by decide +kernel
theorem dX10_fitsPairs_51 : decode cX10_fitsPairs 51 = .ok (.if_icmp .ge 101, 3) := by decide +kernel
theorem dX10_fitsPairs_54 : decode cX10_fitsPairs 54 = .ok (.aload_n 0, 1) := by decide +kernel
theorem dX10_fitsPairs_55 : decode cX10_fitsPairs 55 = .ok (.getfield 11, 3) := by decide +kernel
theorem dX10_fitsPairs_58 : decode cX10_fitsPairs 58 = .ok (.iload_n 3, 1) := by decide +kernel
theorem dX10_fitsPairs_59 : decode cX10_fitsPairs 59 = .ok (.aaload, 1) := by decide +kernel
theorem dX10_fitsPairs_60 : decode cX10_fitsPairs 60 = .ok (.iload 8, 2) := by decide +kernel
theorem dX10_fitsPairs_62 : decode cX10_fitsPairs 62 = .ok (.iaload, 1) := by decide +kernel
theorem dX10_fitsPairs_63 : decode cX10_fitsPairs 63 = .ok (.istore 9, 2) := by decide +kernel
theorem dX10_fitsPairs_65 : decode cX10_fitsPairs 65 = .ok (.iload 5, 2) := by decide +kernel
theorem dX10_fitsPairs_67 : decode cX10_fitsPairs 67 = .ok (.iload 9, 2) := by decide +kernel
theorem dX10_fitsPairs_69 : decode cX10_fitsPairs 69 = .ok (.ishr, 1) := by decide +kernel
theorem dX10_fitsPairs_70 : decode cX10_fitsPairs 70 = .ok (.iconst 1, 1) := by decide +kernel
theorem dX10_fitsPairs_71 : decode cX10_fitsPairs 71 = .ok (.iand, 1) := by decide +kernel
theorem dX10_fitsPairs_72 : decode cX10_fitsPairs 72 = .ok (.ifCond .ne 5, 3) := by decide +kernel
theorem dX10_fitsPairs_75 : decode cX10_fitsPairs 75 = .ok (.iconst 0, 1) := by decide +kernel
theorem dX10_fitsPairs_76 : decode cX10_fitsPairs 76 = .ok (.ireturn, 1) := by decide +kernel
theorem dX10_fitsPairs_77 : decode cX10_fitsPairs 77 = .ok (.aload_n 0, 1) := by decide +kernel
theorem dX10_fitsPairs_78 : decode cX10_fitsPairs 78 = .ok (.getfield 36, 3) := by decide +kernel
theorem dX10_fitsPairs_81 : decode cX10_fitsPairs 81 = .ok (.iload_n 2, 1) := by decide +kernel
theorem dX10_fitsPairs_82 : decode cX10_fitsPairs 82 = .ok (.iload 4, 2) := by decide +kernel
theorem dX10_fitsPairs_84 : decode cX10_fitsPairs 84 = .ok (.aload_n 0, 1) := by decide +kernel
theorem dX10_fitsPairs_85 : decode cX10_fitsPairs 85 = .ok (.getfield 36, 3) := by decide +kernel
theorem dX10_fitsPairs_88 : decode cX10_fitsPairs 88 = .ok (.getfield 338, 3) := by decide +kernel
theorem dX10_fitsPairs_91 : decode cX10_fitsPairs 91 = .ok (.iload_n 1, 1) := by decide +kernel
theorem dX10_fitsPairs_92 : decode cX10_fitsPairs 92 = .ok (.aaload, 1) := by decide +kernel
theorem dX10_fitsPairs_93 : decode cX10_fitsPairs 93 = .ok (.iload 9, 2) := by decide +kernel
theorem dX10_fitsPairs_95 : decode cX10_fitsPairs 95 = .ok (.iload 6, 2) := by decide +kernel
theorem dX10_fitsPairs_97 : decode cX10_fitsPairs 97 = .ok (.iload 7, 2) := by decide +kernel
theorem dX10_fitsPairs_99 : decode cX10_fitsPairs 99 = .ok (.invokevirtual 211, 3) := by decide +kernel
theorem dX10_fitsPairs_102 : decode cX10_fitsPairs 102 = .ok (.invokevirtual 342, 3) := by decide +kernel
theorem dX10_fitsPairs_105 : decode cX10_fitsPairs 105 = .ok (.istore 4, 2) := by decide +kernel
theorem dX10_fitsPairs_107 : decode cX10_fitsPairs 107 = .ok (.iload 4, 2) := by decide +kernel
theorem dX10_fitsPairs_109 : decode cX10_fitsPairs 109 = .ok (.invokestatic 229, 3) := by decide +kernel
theorem dX10_fitsPairs_112 : decode cX10_fitsPairs 112 = .ok (.aload_n 0, 1) := by decide +kernel
theorem dX10_fitsPairs_113 : decode cX10_fitsPairs 113 = .ok (.getfield 11, 3) := by decide +kernel
theorem dX10_fitsPairs_116 : decode cX10_fitsPairs 116 = .ok (.iload_n 3, 1) := by decide +kernel
theorem dX10_fitsPairs_117 : decode cX10_fitsPairs 117 = .ok (.aaload, 1) := by decide +kernel
theorem dX10_fitsPairs_118 : decode cX10_fitsPairs 118 = .ok (.iload 8, 2) := by decide +kernel
theorem dX10_fitsPairs_120 : decode cX10_fitsPairs 120 = .ok (.iconst 1, 1) := by decide +kernel
theorem dX10_fitsPairs_121 : decode cX10_fitsPairs 121 = .ok (.iadd, 1) := by decide +kernel
theorem dX10_fitsPairs_122 : decode cX10_fitsPairs 122 = .ok (.iaload, 1) := by decide +kernel
theorem dX10_fitsPairs_123 : decode cX10_fitsPairs 123 = .ok (.if_icmp .eq 5, 3) := by decide +kernel
theorem dX10_fitsPairs_126 : decode cX10_fitsPairs 126 = .ok (.iconst 0, 1) := by decide +kernel
theorem dX10_fitsPairs_127 : decode cX10_fitsPairs 127 = .ok (.ireturn, 1) := by decide +kernel
theorem dX10_fitsPairs_128 : decode cX10_fitsPairs 128 = .ok (.iload 5, 2) := by decide +kernel
theorem dX10_fitsPairs_130 : decode cX10_fitsPairs 130 = .ok (.iconst 1, 1) := by decide +kernel
theorem dX10_fitsPairs_131 : decode cX10_fitsPairs 131 = .ok (.iload 9, 2) := by decide +kernel
theorem dX10_fitsPairs_133 : decode cX10_fitsPairs 133 = .ok (.ishl, 1) := by decide +kernel
theorem dX10_fitsPairs_134 : decode cX10_fitsPairs 134 = .ok (.iconst (-1), 1) := by decide +kernel
theorem dX10_fitsPairs_135 : decode cX10_fitsPairs 135 = .ok (.ixor, 1) := by decide +kernel
theorem dX10_fitsPairs_136 : decode cX10_fitsPairs 136 = .ok (.iand, 1) := by decide +kernel
theorem dX10_fitsPairs_137 : decode cX10_fitsPairs 137 = .ok (.istore 5, 2) := by decide +kernel
theorem dX10_fitsPairs_139 : decode cX10_fitsPairs 139 = .ok (.iload 9, 2) := by decide +kernel
theorem dX10_fitsPairs_141 : decode cX10_fitsPairs 141 = .ok (.istore 6, 2) := by decide +kernel
theorem dX10_fitsPairs_143 : decode cX10_fitsPairs 143 = .ok (.iinc 7 1, 3) := by decide +kernel
theorem dX10_fitsPairs_146 : decode cX10_fitsPairs 146 = .ok (.iinc 8 2, 3) := by decide +kernel
theorem dX10_fitsPairs_149 : decode cX10_fitsPairs 149 = .ok (.goto (-108), 3) := by decide +kernel
theorem dX10_fitsPairs_152 : decode cX10_fitsPairs 152 = .ok (.iconst 1, 1) := by decide +kernel
theorem dX10_fitsPairs_153 : decode cX10_fitsPairs 153 = .ok (.ireturn, 1) := by decide +kernel
theorem dX10_greatestPart_0 : decode cX10_greatestPart 0 = .ok (.aload_n 0, 1) := by decide +kernel
theorem dX10_greatestPart_1 : decode cX10_greatestPart 1 = .ok (.getfield 67, 3) := by decide +kernel
theorem dX10_greatestPart_4 : decode cX10_greatestPart 4 = .ok (.iconst 0, 1) := by decide +kernel
theorem dX10_greatestPart_5 : decode cX10_greatestPart 5 = .ok (.invokestatic 77, 3) := by decide +kernel
theorem dX10_greatestPart_8 : decode cX10_greatestPart 8 = .ok (.iconst 0, 1) := by decide +kernel
theorem dX10_greatestPart_9 : decode cX10_greatestPart 9 = .ok (.istore 4, 2) := by decide +kernel
theorem dX10_greatestPart_11 : decode cX10_greatestPart 11 = .ok (.iconst 0, 1) := by decide +kernel
theorem dX10_greatestPart_12 : decode cX10_greatestPart 12 = .ok (.istore 5, 2) := by decide +kernel
theorem dX10_greatestPart_14 : decode cX10_greatestPart 14 = .ok (.iload 5, 2) := by decide +kernel
theorem dX10_greatestPart_16 : decode cX10_greatestPart 16 = .ok (.bipush 6, 2) := by decide +kernel
theorem dX10_greatestPart_18 : decode cX10_greatestPart 18 = .ok (.if_icmp .ge 60, 3) := by decide +kernel
theorem dX10_greatestPart_21 : decode cX10_greatestPart 21 = .ok (.iload_n 1, 1) := by decide +kernel
theorem dX10_greatestPart_22 : decode cX10_greatestPart 22 = .ok (.iload 5, 2) := by decide +kernel
theorem dX10_greatestPart_24 : decode cX10_greatestPart 24 = .ok (.ishr, 1) := by decide +kernel
theorem dX10_greatestPart_25 : decode cX10_greatestPart 25 = .ok (.iconst 1, 1) := by decide +kernel
theorem dX10_greatestPart_26 : decode cX10_greatestPart 26 = .ok (.iand, 1) := by decide +kernel
theorem dX10_greatestPart_27 : decode cX10_greatestPart 27 = .ok (.iconst 1, 1) := by decide +kernel
theorem dX10_greatestPart_28 : decode cX10_greatestPart 28 = .ok (.if_icmp .ne 44, 3) := by decide +kernel
theorem dX10_greatestPart_31 : decode cX10_greatestPart 31 = .ok (.aload_n 0, 1) := by decide +kernel
theorem dX10_greatestPart_32 : decode cX10_greatestPart 32 = .ok (.iload 5, 2) := by decide +kernel
theorem dX10_greatestPart_34 : decode cX10_greatestPart 34 = .ok (.iload_n 2, 1) := by decide +kernel
theorem dX10_greatestPart_35 : decode cX10_greatestPart 35 = .ok (.iload_n 3, 1) := by decide +kernel
theorem dX10_greatestPart_36 : decode cX10_greatestPart 36 = .ok (.invokevirtual 253, 3) := by decide +kernel
theorem dX10_greatestPart_39 : decode cX10_greatestPart 39 = .ok (.bipush 63, 2) := by decide +kernel
theorem dX10_greatestPart_41 : decode cX10_greatestPart 41 = .ok (.iand, 1) := by decide +kernel
theorem dX10_greatestPart_42 : decode cX10_greatestPart 42 = .ok (.invokestatic 229, 3) := by decide +kernel
theorem dX10_greatestPart_45 : decode cX10_greatestPart 45 = .ok (.istore 6, 2) := by decide +kernel
theorem dX10_greatestPart_47 : decode cX10_greatestPart 47 = .ok (.aload_n 0, 1) := by decide +kernel
theorem dX10_greatestPart_48 : decode cX10_greatestPart 48 = .ok (.getfield 67, 3) := by decide +kernel
theorem dX10_greatestPart_51 : decode cX10_greatestPart 51 = .ok (.iload 6, 2) := by decide +kernel
theorem dX10_greatestPart_53 : decode cX10_greatestPart 53 = .ok (.dup2, 1) := by decide +kernel
theorem dX10_greatestPart_54 : decode cX10_greatestPart 54 = .ok (.iaload, 1) := by decide +kernel
theorem dX10_greatestPart_55 : decode cX10_greatestPart 55 = .ok (.iconst 1, 1) := by decide +kernel
theorem dX10_greatestPart_56 : decode cX10_greatestPart 56 = .ok (.iadd, 1) := by decide +kernel
theorem dX10_greatestPart_57 : decode cX10_greatestPart 57 = .ok (.iastore, 1) := by decide +kernel
theorem dX10_greatestPart_58 : decode cX10_greatestPart 58 = .ok (.iload 4, 2) := by decide +kernel
theorem dX10_greatestPart_60 : decode cX10_greatestPart 60 = .ok (.aload_n 0, 1) := by decide +kernel
theorem dX10_greatestPart_61 : decode cX10_greatestPart 61 = .ok (.getfield 67, 3) := by decide +kernel
theorem dX10_greatestPart_64 : decode cX10_greatestPart 64 = .ok (.iload 6, 2) := by decide +kernel
theorem dX10_greatestPart_66 : decode cX10_greatestPart 66 = .ok (.iaload, 1) := by decide +kernel
theorem dX10_greatestPart_67 : decode cX10_greatestPart 67 = .ok (.invokestatic 335, 3) := by decide +kernel
theorem dX10_greatestPart_70 : decode cX10_greatestPart 70 = .ok (.istore 4, 2) := by decide +kernel
theorem dX10_greatestPart_72 : decode cX10_greatestPart 72 = .ok (.iinc 5 1, 3) := by decide +kernel
theorem dX10_greatestPart_75 : decode cX10_greatestPart 75 = .ok (.goto (-61), 3) := by decide +kernel
theorem dX10_greatestPart_78 : decode cX10_greatestPart 78 = .ok (.iload 4, 2) := by decide +kernel
theorem dX10_greatestPart_80 : decode cX10_greatestPart 80 = .ok (.ireturn, 1) := by decide +kernel
theorem dX10_tellAhead_0 : decode cX10_tellAhead 0 = .ok (.aload_n 0, 1) := by decide +kernel
theorem dX10_tellAhead_1 : decode cX10_tellAhead 1 = .ok (.iload_n 1, 1) := by decide +kernel
theorem dX10_tellAhead_2 : decode cX10_tellAhead 2 = .ok (.invokevirtual 138, 3) := by decide +kernel
theorem dX10_tellAhead_5 : decode cX10_tellAhead 5 = .ok (.ifCond .eq 12, 3) := by decide +kernel
theorem dX10_tellAhead_8 : decode cX10_tellAhead 8 = .ok (.iload_n 2, 1) := by decide +kernel
theorem dX10_tellAhead_9 : decode cX10_tellAhead 9 = .ok (.ifCond .lt 8, 3) := by decide +kernel
theorem dX10_tellAhead_12 : decode cX10_tellAhead 12 = .ok (.iload_n 2, 1) := by decide +kernel
theorem dX10_tellAhead_13 : decode cX10_tellAhead 13 = .ok (.iconst 3, 1) := by decide +kernel
theorem dX10_tellAhead_14 : decode cX10_tellAhead 14 = .ok (.if_icmp .le 5, 3) := by decide +kernel
theorem dX10_tellAhead_17 : decode cX10_tellAhead 17 = .ok (.iconst (-1), 1) := by decide +kernel
theorem dX10_tellAhead_18 : decode cX10_tellAhead 18 = .ok (.ireturn, 1) := by decide +kernel
theorem dX10_tellAhead_19 : decode cX10_tellAhead 19 = .ok (.aload_n 0, 1) := by decide +kernel
theorem dX10_tellAhead_20 : decode cX10_tellAhead 20 = .ok (.iload_n 2, 1) := by decide +kernel
theorem dX10_tellAhead_21 : decode cX10_tellAhead 21 = .ok (.invokevirtual 234, 3) := by decide +kernel
theorem dX10_tellAhead_24 : decode cX10_tellAhead 24 = .ok (.istore 4, 2) := by decide +kernel
theorem dX10_tellAhead_26 : decode cX10_tellAhead 26 = .ok (.aload_n 0, 1) := by decide +kernel
theorem dX10_tellAhead_27 : decode cX10_tellAhead 27 = .ok (.aload_n 0, 1) := by decide +kernel
theorem dX10_tellAhead_28 : decode cX10_tellAhead 28 = .ok (.iload_n 1, 1) := by decide +kernel
theorem dX10_tellAhead_29 : decode cX10_tellAhead 29 = .ok (.iload_n 3, 1) := by decide +kernel
theorem dX10_tellAhead_30 : decode cX10_tellAhead 30 = .ok (.iconst 0, 1) := by decide +kernel
theorem dX10_tellAhead_31 : decode cX10_tellAhead 31 = .ok (.iload 4, 2) := by decide +kernel
theorem dX10_tellAhead_33 : decode cX10_tellAhead 33 = .ok (.invokevirtual 348, 3) := by decide +kernel
theorem dX10_tellAhead_36 : decode cX10_tellAhead 36 = .ok (.aload_n 0, 1) := by decide +kernel
theorem dX10_tellAhead_37 : decode cX10_tellAhead 37 = .ok (.iload 4, 2) := by decide +kernel
theorem dX10_tellAhead_39 : decode cX10_tellAhead 39 = .ok (.invokevirtual 352, 3) := by decide +kernel
theorem dX10_tellAhead_42 : decode cX10_tellAhead 42 = .ok (.invokevirtual 356, 3) := by decide +kernel
theorem dX10_tellAhead_45 : decode cX10_tellAhead 45 = .ok (.iconst 1, 1) := by decide +kernel
theorem dX10_tellAhead_46 : decode cX10_tellAhead 46 = .ok (.ireturn, 1) := by decide +kernel
theorem dX10_orders_0 : decode cX10_orders 0 = .ok (.lconst 1, 1) := by decide +kernel
theorem dX10_orders_1 : decode cX10_orders 1 = .ok (.lstore_n 2, 1) := by decide +kernel
theorem dX10_orders_2 : decode cX10_orders 2 = .ok (.aload_n 0, 1) := by decide +kernel
theorem dX10_orders_3 : decode cX10_orders 3 = .ok (.getfield 45, 3) := by decide +kernel
theorem dX10_orders_6 : decode cX10_orders 6 = .ok (.getfield 262, 3) := by decide +kernel
theorem dX10_orders_9 : decode cX10_orders 9 = .ok (.invokestatic 229, 3) := by decide +kernel
theorem dX10_orders_12 : decode cX10_orders 12 = .ok (.istore 4, 2) := by decide +kernel
theorem dX10_orders_14 : decode cX10_orders 14 = .ok (.iconst 0, 1) := by decide +kernel
theorem dX10_orders_15 : decode cX10_orders 15 = .ok (.istore 5, 2) := by decide +kernel
theorem dX10_orders_17 : decode cX10_orders 17 = .ok (.iload 5, 2) := by decide +kernel
theorem dX10_orders_19 : decode cX10_orders 19 = .ok (.iload_n 1, 1) := by decide +kernel
theorem dX10_orders_20 : decode cX10_orders 20 = .ok (.if_icmp .ge 18, 3) := by decide +kernel
theorem dX10_orders_23 : decode cX10_orders 23 = .ok (.lload_n 2, 1) := by decide +kernel
theorem dX10_orders_24 : decode cX10_orders 24 = .ok (.iload 4, 2) := by decide +kernel
theorem dX10_orders_26 : decode cX10_orders 26 = .ok (.iload 5, 2) := by decide +kernel
theorem dX10_orders_28 : decode cX10_orders 28 = .ok (.isub, 1) := by decide +kernel
theorem dX10_orders_29 : decode cX10_orders 29 = .ok (.i2l, 1) := by decide +kernel
theorem dX10_orders_30 : decode cX10_orders 30 = .ok (.lmul, 1) := by decide +kernel
theorem dX10_orders_31 : decode cX10_orders 31 = .ok (.lstore_n 2, 1) := by decide +kernel
theorem dX10_orders_32 : decode cX10_orders 32 = .ok (.iinc 5 1, 3) := by decide +kernel
theorem dX10_orders_35 : decode cX10_orders 35 = .ok (.goto (-18), 3) := by decide +kernel
theorem dX10_orders_38 : decode cX10_orders 38 = .ok (.lload_n 2, 1) := by decide +kernel
theorem dX10_orders_39 : decode cX10_orders 39 = .ok (.lreturn, 1) := by decide +kernel
theorem dX10_sumAhead_0 : decode cX10_sumAhead 0 = .ok (.aload_n 0, 1) := by decide +kernel
theorem dX10_sumAhead_1 : decode cX10_sumAhead 1 = .ok (.getfield 60, 3) := by decide +kernel
theorem dX10_sumAhead_4 : decode cX10_sumAhead 4 = .ok (.iload_n 3, 1) := by decide +kernel
theorem dX10_sumAhead_5 : decode cX10_sumAhead 5 = .ok (.aaload, 1) := by decide +kernel
theorem dX10_sumAhead_6 : decode cX10_sumAhead 6 = .ok (.astore 5, 2) := by decide +kernel
theorem dX10_sumAhead_8 : decode cX10_sumAhead 8 = .ok (.iload_n 3, 1) := by decide +kernel
theorem dX10_sumAhead_9 : decode cX10_sumAhead 9 = .ok (.iload 4, 2) := by decide +kernel
theorem dX10_sumAhead_11 : decode cX10_sumAhead 11 = .ok (.if_icmp .ge 8, 3) := by decide +kernel
theorem dX10_sumAhead_14 : decode cX10_sumAhead 14 = .ok (.iload_n 3, 1) := by decide +kernel
theorem dX10_sumAhead_15 : decode cX10_sumAhead 15 = .ok (.iconst 4, 1) := by decide +kernel
theorem dX10_sumAhead_16 : decode cX10_sumAhead 16 = .ok (.if_icmp .lt 32, 3) := by decide +kernel
theorem dX10_sumAhead_19 : decode cX10_sumAhead 19 = .ok (.iload_n 2, 1) := by decide +kernel
theorem dX10_sumAhead_20 : decode cX10_sumAhead 20 = .ok (.ifCond .eq 16, 3) := by decide +kernel
theorem dX10_sumAhead_23 : decode cX10_sumAhead 23 = .ok (.aload 5, 2) := by decide +kernel
theorem dX10_sumAhead_25 : decode cX10_sumAhead 25 = .ok (.getfield 223, 3) := by decide +kernel
theorem dX10_sumAhead_28 : decode cX10_sumAhead 28 = .ok (.iload_n 1, 1) := by decide +kernel
theorem dX10_sumAhead_29 : decode cX10_sumAhead 29 = .ok (.ishr, 1) := by decide +kernel
theorem dX10_sumAhead_30 : decode cX10_sumAhead 30 = .ok (.iconst 1, 1) := by decide +kernel
theorem dX10_sumAhead_31 : decode cX10_sumAhead 31 = .ok (.iand, 1) := by decide +kernel
theorem dX10_sumAhead_32 : decode cX10_sumAhead 32 = .ok (.i2l, 1) := by decide +kernel
theorem dX10_sumAhead_33 : decode cX10_sumAhead 33 = .ok (.goto 14, 3) := by decide +kernel
theorem dX10_sumAhead_36 : decode cX10_sumAhead 36 = .ok (.aload 5, 2) := by decide +kernel
theorem dX10_sumAhead_38 : decode cX10_sumAhead 38 = .ok (.getfield 156, 3) := by decide +kernel
theorem dX10_sumAhead_41 : decode cX10_sumAhead 41 = .ok (.iload_n 1, 1) := by decide +kernel
theorem dX10_sumAhead_42 : decode cX10_sumAhead 42 = .ok (.iaload, 1) := by decide +kernel
theorem dX10_sumAhead_43 : decode cX10_sumAhead 43 = .ok (.invokestatic 229, 3) := by decide +kernel
theorem dX10_sumAhead_46 : decode cX10_sumAhead 46 = .ok (.i2l, 1) := by decide +kernel
theorem dX10_sumAhead_47 : decode cX10_sumAhead 47 = .ok (.lreturn, 1) := by decide +kernel
theorem dX10_sumAhead_48 : decode cX10_sumAhead 48 = .ok (.lconst 0, 1) := by decide +kernel
theorem dX10_sumAhead_49 : decode cX10_sumAhead 49 = .ok (.lstore 6, 2) := by decide +kernel
theorem dX10_sumAhead_51 : decode cX10_sumAhead 51 = .ok (.iconst 1, 1) := by decide +kernel
theorem dX10_sumAhead_52 : decode cX10_sumAhead 52 = .ok (.istore 8, 2) := by decide +kernel
theorem dX10_sumAhead_54 : decode cX10_sumAhead 54 = .ok (.iload 8, 2) := by decide +kernel
theorem dX10_sumAhead_56 : decode cX10_sumAhead 56 = .ok (.bipush 12, 2) := by decide +kernel
theorem dX10_sumAhead_58 : decode cX10_sumAhead 58 = .ok (.if_icmp .gt 46, 3) := by decide +kernel
theorem dX10_sumAhead_61 : decode cX10_sumAhead 61 = .ok (.aload 5, 2) := by decide +kernel
theorem dX10_sumAhead_63 : decode cX10_sumAhead 63 = .ok (.iload 8, 2) := by decide +kernel
theorem dX10_sumAhead_65 : decode cX10_sumAhead 65 = .ok (.invokevirtual 191, 3) := by decide +kernel
theorem dX10_sumAhead_68 : decode cX10_sumAhead 68 = .ok (.ifCond .eq 30, 3) := by decide +kernel
theorem dX10_sumAhead_71 : decode cX10_sumAhead 71 = .ok (.aload_n 0, 1) := by decide +kernel
theorem dX10_sumAhead_72 : decode cX10_sumAhead 72 = .ok (.iload_n 3, 1) := by decide +kernel
theorem dX10_sumAhead_73 : decode cX10_sumAhead 73 = .ok (.iload 8, 2) := by decide +kernel
theorem dX10_sumAhead_75 : decode cX10_sumAhead 75 = .ok (.iconst 1, 1) := by decide +kernel
theorem dX10_sumAhead_76 : decode cX10_sumAhead 76 = .ok (.iload_n 1, 1) := by decide +kernel
theorem dX10_sumAhead_77 : decode cX10_sumAhead 77 = .ok (.ishl, 1) := by decide +kernel
theorem dX10_sumAhead_78 : decode cX10_sumAhead 78 = .ok (.invokevirtual 226, 3) := by decide +kernel
theorem dX10_sumAhead_81 : decode cX10_sumAhead 81 = .ok (.pop, 1) := by decide +kernel
theorem dX10_sumAhead_82 : decode cX10_sumAhead 82 = .ok (.lload 6, 2) := by decide +kernel
theorem dX10_sumAhead_84 : decode cX10_sumAhead 84 = .ok (.aload_n 0, 1) := by decide +kernel
theorem dX10_sumAhead_85 : decode cX10_sumAhead 85 = .ok (.iload_n 1, 1) := by decide +kernel
theorem dX10_sumAhead_86 : decode cX10_sumAhead 86 = .ok (.iload_n 2, 1) := by decide +kernel
theorem dX10_sumAhead_87 : decode cX10_sumAhead 87 = .ok (.iload_n 3, 1) := by decide +kernel
theorem dX10_sumAhead_88 : decode cX10_sumAhead 88 = .ok (.iconst 1, 1) := by decide +kernel
theorem dX10_sumAhead_89 : decode cX10_sumAhead 89 = .ok (.iadd, 1) := by decide +kernel
theorem dX10_sumAhead_90 : decode cX10_sumAhead 90 = .ok (.iload 4, 2) := by decide +kernel
theorem dX10_sumAhead_92 : decode cX10_sumAhead 92 = .ok (.invokevirtual 348, 3) := by decide +kernel
theorem dX10_sumAhead_95 : decode cX10_sumAhead 95 = .ok (.ladd, 1) := by decide +kernel
theorem dX10_sumAhead_96 : decode cX10_sumAhead 96 = .ok (.lstore 6, 2) := by decide +kernel
theorem dX10_sumAhead_98 : decode cX10_sumAhead 98 = .ok (.iinc 8 1, 3) := by decide +kernel
theorem dX10_sumAhead_101 : decode cX10_sumAhead 101 = .ok (.goto (-47), 3) := by decide +kernel
theorem dX10_sumAhead_104 : decode cX10_sumAhead 104 = .ok (.lload 6, 2) := by decide +kernel
theorem dX10_sumAhead_106 : decode cX10_sumAhead 106 = .ok (.lreturn, 1) := by decide +kernel
theorem dX10_tell_0 : decode cX10_tell 0 = .ok (.lload_n 1, 1) := by decide +kernel
theorem dX10_tell_1 : decode cX10_tell 1 = .ok (.lload_n 3, 1) := by decide +kernel
theorem dX10_tell_2 : decode cX10_tell 2 = .ok (.invokestatic 360, 3) := by decide +kernel
theorem dX10_tell_5 : decode cX10_tell 5 = .ok (.lstore 5, 2) := by decide +kernel
theorem dX10_tell_7 : decode cX10_tell 7 = .ok (.lload 5, 2) := by decide +kernel
theorem dX10_tell_9 : decode cX10_tell 9 = .ok (.lconst 0, 1) := by decide +kernel
theorem dX10_tell_10 : decode cX10_tell 10 = .ok (.lcmp, 1) := by decide +kernel
theorem dX10_tell_11 : decode cX10_tell 11 = .ok (.ifCond .le 19, 3) := by decide +kernel
theorem dX10_tell_14 : decode cX10_tell 14 = .ok (.aload_n 0, 1) := by decide +kernel
theorem dX10_tell_15 : decode cX10_tell 15 = .ok (.lload_n 1, 1) := by decide +kernel
theorem dX10_tell_16 : decode cX10_tell 16 = .ok (.lload 5, 2) := by decide +kernel
theorem dX10_tell_18 : decode cX10_tell 18 = .ok (.ldiv, 1) := by decide +kernel
theorem dX10_tell_19 : decode cX10_tell 19 = .ok (.putfield 284, 3) := by decide +kernel
theorem dX10_tell_22 : decode cX10_tell 22 = .ok (.aload_n 0, 1) := by decide +kernel
theorem dX10_tell_23 : decode cX10_tell 23 = .ok (.lload_n 3, 1) := by decide +kernel
theorem dX10_tell_24 : decode cX10_tell 24 = .ok (.lload 5, 2) := by decide +kernel
theorem dX10_tell_26 : decode cX10_tell 26 = .ok (.ldiv, 1) := by decide +kernel
theorem dX10_tell_27 : decode cX10_tell 27 = .ok (.putfield 70, 3) := by decide +kernel
theorem dX10_tell_30 : decode cX10_tell 30 = .ok (.return_, 1) := by decide +kernel
theorem dX10_commonDivisor_0 : decode cX10_commonDivisor 0 = .ok (.lload_n 0, 1) := by decide +kernel
theorem dX10_commonDivisor_1 : decode cX10_commonDivisor 1 = .ok (.lstore 4, 2) := by decide +kernel
theorem dX10_commonDivisor_3 : decode cX10_commonDivisor 3 = .ok (.lload_n 2, 1) := by decide +kernel
theorem dX10_commonDivisor_4 : decode cX10_commonDivisor 4 = .ok (.lstore 6, 2) := by decide +kernel
theorem dX10_commonDivisor_6 : decode cX10_commonDivisor 6 = .ok (.iconst 0, 1) := by decide +kernel
theorem dX10_commonDivisor_7 : decode cX10_commonDivisor 7 = .ok (.istore 8, 2) := by decide +kernel
theorem dX10_commonDivisor_9 : decode cX10_commonDivisor 9 = .ok (.iload 8, 2) := by decide +kernel
theorem dX10_commonDivisor_11 : decode cX10_commonDivisor 11 = .ok (.bipush 100, 2) := by decide +kernel
theorem dX10_commonDivisor_13 : decode cX10_commonDivisor 13 = .ok (.if_icmp .ge 31, 3) := by decide +kernel
theorem dX10_commonDivisor_16 : decode cX10_commonDivisor 16 = .ok (.lload 6, 2) := by decide +kernel
theorem dX10_commonDivisor_18 : decode cX10_commonDivisor 18 = .ok (.lconst 0, 1) := by decide +kernel
theorem dX10_commonDivisor_19 : decode cX10_commonDivisor 19 = .ok (.lcmp, 1) := by decide +kernel
theorem dX10_commonDivisor_20 : decode cX10_commonDivisor 20 = .ok (.ifCond .eq 24, 3) := by decide +kernel
theorem dX10_commonDivisor_23 : decode cX10_commonDivisor 23 = .ok (.lload 4, 2) := by decide +kernel
theorem dX10_commonDivisor_25 : decode cX10_commonDivisor 25 = .ok (.lload 6, 2) := by decide +kernel
theorem dX10_commonDivisor_27 : decode cX10_commonDivisor 27 = .ok (.lrem, 1) := by decide +kernel
theorem dX10_commonDivisor_28 : decode cX10_commonDivisor 28 = .ok (.lstore 9, 2) := by decide +kernel
theorem dX10_commonDivisor_30 : decode cX10_commonDivisor 30 = .ok (.lload 6, 2) := by decide +kernel
theorem dX10_commonDivisor_32 : decode cX10_commonDivisor 32 = .ok (.lstore 4, 2) := by decide +kernel
theorem dX10_commonDivisor_34 : decode cX10_commonDivisor 34 = .ok (.lload 9, 2) := by decide +kernel
theorem dX10_commonDivisor_36 : decode cX10_commonDivisor 36 = .ok (.lstore 6, 2) := by decide +kernel
theorem dX10_commonDivisor_38 : decode cX10_commonDivisor 38 = .ok (.iinc 8 1, 3) := by decide +kernel
theorem dX10_commonDivisor_41 : decode cX10_commonDivisor 41 = .ok (.goto (-32), 3) := by decide +kernel
theorem dX10_commonDivisor_44 : decode cX10_commonDivisor 44 = .ok (.lload 4, 2) := by decide +kernel
theorem dX10_commonDivisor_46 : decode cX10_commonDivisor 46 = .ok (.lreturn, 1) := by decide +kernel
theorem dX10_thoseThere_0 : decode cX10_thoseThere 0 = .ok (.iconst 0, 1) := by decide +kernel
theorem dX10_thoseThere_1 : decode cX10_thoseThere 1 = .ok (.istore_n 1, 1) := by decide +kernel
theorem dX10_thoseThere_2 : decode cX10_thoseThere 2 = .ok (.aload_n 0, 1) := by decide +kernel
theorem dX10_thoseThere_3 : decode cX10_thoseThere 3 = .ok (.astore_n 2, 1) := by decide +kernel
theorem dX10_thoseThere_4 : decode cX10_thoseThere 4 = .ok (.aload_n 2, 1) := by decide +kernel
theorem dX10_thoseThere_5 : decode cX10_thoseThere 5 = .ok (.arraylength, 1) := by decide +kernel
theorem dX10_thoseThere_6 : decode cX10_thoseThere 6 = .ok (.istore_n 3, 1) := by decide +kernel
theorem dX10_thoseThere_7 : decode cX10_thoseThere 7 = .ok (.iconst 0, 1) := by decide +kernel
theorem dX10_thoseThere_8 : decode cX10_thoseThere 8 = .ok (.istore 4, 2) := by decide +kernel
theorem dX10_thoseThere_10 : decode cX10_thoseThere 10 = .ok (.iload 4, 2) := by decide +kernel
theorem dX10_thoseThere_12 : decode cX10_thoseThere 12 = .ok (.iload_n 3, 1) := by decide +kernel
theorem dX10_thoseThere_13 : decode cX10_thoseThere 13 = .ok (.if_icmp .ge 23, 3) := by decide +kernel
theorem dX10_thoseThere_16 : decode cX10_thoseThere 16 = .ok (.aload_n 2, 1) := by decide +kernel
theorem dX10_thoseThere_17 : decode cX10_thoseThere 17 = .ok (.iload 4, 2) := by decide +kernel
theorem dX10_thoseThere_19 : decode cX10_thoseThere 19 = .ok (.iaload, 1) := by decide +kernel
theorem dX10_thoseThere_20 : decode cX10_thoseThere 20 = .ok (.istore 5, 2) := by decide +kernel
theorem dX10_thoseThere_22 : decode cX10_thoseThere 22 = .ok (.iload 5, 2) := by decide +kernel
theorem dX10_thoseThere_24 : decode cX10_thoseThere 24 = .ok (.ifCond .lt 6, 3) := by decide +kernel
theorem dX10_thoseThere_27 : decode cX10_thoseThere 27 = .ok (.iinc 1 1, 3) := by decide +kernel
theorem dX10_thoseThere_30 : decode cX10_thoseThere 30 = .ok (.iinc 4 1, 3) := by decide +kernel
theorem dX10_thoseThere_33 : decode cX10_thoseThere 33 = .ok (.goto (-23), 3) := by decide +kernel
theorem dX10_thoseThere_36 : decode cX10_thoseThere 36 = .ok (.iload_n 1, 1) := by decide +kernel
theorem dX10_thoseThere_37 : decode cX10_thoseThere 37 = .ok (.ireturn, 1) := by decide +kernel
theorem dX10_keptHalls_0 : decode cX10_keptHalls 0 = .ok (.iconst 0, 1) := by decide +kernel
theorem dX10_keptHalls_1 : decode cX10_keptHalls 1 = .ok (.istore_n 1, 1) := by decide +kernel
theorem dX10_keptHalls_2 : decode cX10_keptHalls 2 = .ok (.iconst 0, 1) := by decide +kernel
theorem dX10_keptHalls_3 : decode cX10_keptHalls 3 = .ok (.istore_n 2, 1) := by decide +kernel
theorem dX10_keptHalls_4 : decode cX10_keptHalls 4 = .ok (.iload_n 2, 1) := by decide +kernel
theorem dX10_keptHalls_5 : decode cX10_keptHalls 5 = .ok (.iconst 3, 1) := by decide +kernel
theorem dX10_keptHalls_6 : decode cX10_keptHalls 6 = .ok (.if_icmp .ge 24, 3) := by decide +kernel
theorem dX10_keptHalls_9 : decode cX10_keptHalls 9 = .ok (.aload_n 0, 1) := by decide +kernel
theorem dX10_keptHalls_10 : decode cX10_keptHalls 10 = .ok (.getfield 56, 3) := by decide +kernel
theorem dX10_keptHalls_13 : decode cX10_keptHalls 13 = .ok (.iload_n 2, 1) := by decide +kernel
theorem dX10_keptHalls_14 : decode cX10_keptHalls 14 = .ok (.aaload, 1) := by decide +kernel
theorem dX10_keptHalls_15 : decode cX10_keptHalls 15 = .ok (.getfield 83, 3) := by decide +kernel
theorem dX10_keptHalls_18 : decode cX10_keptHalls 18 = .ok (.ifCond .lt 6, 3) := by decide +kernel
theorem dX10_keptHalls_21 : decode cX10_keptHalls 21 = .ok (.iinc 1 1, 3) := by decide +kernel
theorem dX10_keptHalls_24 : decode cX10_keptHalls 24 = .ok (.iinc 2 1, 3) := by decide +kernel
theorem dX10_keptHalls_27 : decode cX10_keptHalls 27 = .ok (.goto (-23), 3) := by decide +kernel
theorem dX10_keptHalls_30 : decode cX10_keptHalls 30 = .ok (.iload_n 1, 1) := by decide +kernel
theorem dX10_keptHalls_31 : decode cX10_keptHalls 31 = .ok (.ireturn, 1) := by decide +kernel
end
section
theorem dX11_init_0 : decode cX11_init 0 = .ok (.aload_n 0, 1) := by decide +kernel
theorem dX11_init_1 : decode cX11_init 1 = .ok (.invokespecial 1, 3) := by decide +kernel
theorem dX11_init_4 : decode cX11_init 4 = .ok (.aload_n 0, 1) := by decide +kernel
theorem dX11_init_5 : decode cX11_init 5 = .ok (.bipush 6, 2) := by decide +kernel
theorem dX11_init_7 : decode cX11_init 7 = .ok (.newarray .int, 2) := by decide +kernel
theorem dX11_init_9 : decode cX11_init 9 = .ok (.putfield 7, 3) := by decide +kernel
theorem dX11_init_12 : decode cX11_init 12 = .ok (.aload_n 0, 1) := by decide +kernel
theorem dX11_init_13 : decode cX11_init 13 = .ok (.sipush 240, 3) := by decide +kernel
theorem dX11_init_16 : decode cX11_init 16 = .ok (.newarray .int, 2) := by decide +kernel
theorem dX11_init_18 : decode cX11_init 18 = .ok (.putfield 13, 3) := by decide +kernel
theorem dX11_init_21 : decode cX11_init 21 = .ok (.aload_n 0, 1) := by decide +kernel
theorem dX11_init_22 : decode cX11_init 22 = .ok (.bipush 40, 2) := by decide +kernel
theorem dX11_init_24 : decode cX11_init 24 = .ok (.newarray .int, 2) := by decide +kernel
theorem dX11_init_26 : decode cX11_init 26 = .ok (.putfield 16, 3) := by decide +kernel
theorem dX11_init_29 : decode cX11_init 29 = .ok (.aload_n 0, 1) := by decide +kernel
theorem dX11_init_30 : decode cX11_init 30 = .ok (.iconst 4, 1) := by decide +kernel
theorem dX11_init_31 : decode cX11_init 31 = .ok (.newarray .int, 2) := by decide +kernel
theorem dX11_init_33 : decode cX11_init 33 = .ok (.putfield 19, 3) := by decide +kernel
theorem dX11_init_36 : decode cX11_init 36 = .ok (.aload_n 0, 1) := by decide +kernel
theorem dX11_init_37 : decode cX11_init 37 = .ok (.sipush 240, 3) := by decide +kernel
theorem dX11_init_40 : decode cX11_init 40 = .ok (.newarray .byte, 2) := by decide +kernel
theorem dX11_init_42 : decode cX11_init 42 = .ok (.putfield 22, 3) := by decide +kernel
theorem dX11_init_45 : decode cX11_init 45 = .ok (.aload_n 0, 1) := by decide +kernel
theorem dX11_init_46 : decode cX11_init 46 = .ok (.iconst 4, 1) := by decide +kernel
theorem dX11_init_47 : decode cX11_init 47 = .ok (.newarray .int, 2) := by decide +kernel
theorem dX11_init_49 : decode cX11_init 49 = .ok (.putfield 26, 3) := by decide +kernel
theorem dX11_init_52 : decode cX11_init 52 = .ok (.aload_n 0, 1) := by decide +kernel
theorem dX11_init_53 : decode cX11_init 53 = .ok (.bipush 24, 2) := by decide +kernel
theorem dX11_init_55 : decode cX11_init 55 = .ok (.newarray .int, 2) := by decide +kernel
theorem dX11_init_57 : decode cX11_init 57 = .ok (.putfield 29, 3) := by decide +kernel
theorem dX11_init_60 : decode cX11_init 60 = .ok (.aload_n 0, 1) := by decide +kernel
theorem dX11_init_61 : decode cX11_init 61 = .ok (.iconst 4, 1) := by decide +kernel
theorem dX11_init_62 : decode cX11_init 62 = .ok (.newarray .int, 2) := by decide +kernel
theorem dX11_init_64 : decode cX11_init 64 = .ok (.putfield 32, 3) := by decide +kernel
theorem dX11_init_67 : decode cX11_init 67 = .ok (.aload_n 0, 1) := by decide +kernel
theorem dX11_init_68 : decode cX11_init 68 = .ok (.bipush 24, 2) := by decide +kernel
theorem dX11_init_70 : decode cX11_init 70 = .ok (.newarray .int, 2) := by decide +kernel
theorem dX11_init_72 : decode cX11_init 72 = .ok (.putfield 35, 3) := by decide +kernel
theorem dX11_init_75 : decode cX11_init 75 = .ok (.aload_n 0, 1) := by decide +kernel
theorem dX11_init_76 : decode cX11_init 76 = .ok (.sipush 1360, 3) := by decide +kernel
theorem dX11_init_79 : decode cX11_init 79 = .ok (.newarray .int, 2) := by decide +kernel
theorem dX11_init_81 : decode cX11_init 81 = .ok (.putfield 38, 3) := by decide +kernel
theorem dX11_init_84 : decode cX11_init 84 = .ok (.aload_n 0, 1) := by decide +kernel
theorem dX11_init_85 : decode cX11_init 85 = .ok (.iconst 3, 1) := by decide +kernel
theorem dX11_init_86 : decode cX11_init 86 = .ok (.newarray .int, 2) := by decide +kernel
theorem dX11_init_88 : decode cX11_init 88 = .ok (.putfield 41, 3) := by decide +kernel
theorem dX11_init_91 : decode cX11_init 91 = .ok (.aload_n 0, 1) := by decide +kernel
theorem dX11_init_92 : decode cX11_init 92 = .ok (.lconst 1, 1) := by decide +kernel
theorem dX11_init_93 : decode cX11_init 93 = .ok (.putfield 44, 3) := by decide +kernel
theorem dX11_init_96 : decode cX11_init 96 = .ok (.aload_n 0, 1) := by decide +kernel
theorem dX11_init_97 : decode cX11_init 97 = .ok (.bipush 6, 2) := by decide +kernel
theorem dX11_init_99 : decode cX11_init 99 = .ok (.newarray .int, 2) := by decide +kernel
theorem dX11_init_101 : decode cX11_init 101 = .ok (.putfield 48, 3) := by decide +kernel
theorem dX11_init_104 : decode cX11_init 104 = .ok (.aload_n 0, 1) := by decide +kernel
theorem dX11_init_105 : decode cX11_init 105 = .ok (.iconst 5, 1) := by decide +kernel
theorem dX11_init_106 : decode cX11_init 106 = .ok (.newarray .int, 2) := by decide +kernel
theorem dX11_init_108 : decode cX11_init 108 = .ok (.putfield 51, 3) := by decide +kernel
theorem dX11_init_111 : decode cX11_init 111 = .ok (.aload_n 0, 1) := by decide +kernel
theorem dX11_init_112 : decode cX11_init 112 = .ok (.iconst 5, 1) := by decide +kernel
theorem dX11_init_113 : decode cX11_init 113 = .ok (.newarray .int, 2) := by decide +kernel
theorem dX11_init_115 : decode cX11_init 115 = .ok (.putfield 54, 3) := by decide +kernel
theorem dX11_init_118 : decode cX11_init 118 = .ok (.aload_n 0, 1) := by decide +kernel
theorem dX11_init_119 : decode cX11_init 119 = .ok (.iconst 5, 1) := by decide +kernel
theorem dX11_init_120 : decode cX11_init 120 = .ok (.newarray .int, 2) := by decide +kernel
theorem dX11_init_122 : decode cX11_init 122 = .ok (.putfield 57, 3) := by decide +kernel
theorem dX11_init_125 : decode cX11_init 125 = .ok (.iconst 0, 1) := by decide +kernel
theorem dX11_init_126 : decode cX11_init 126 = .ok (.istore_n 1, 1) := by decide +kernel
theorem dX11_init_127 : decode cX11_init 127 = .ok (.iload_n 1, 1) := by decide +kernel
theorem dX11_init_128 : decode cX11_init 128 = .ok (.bipush 6, 2) := by decide +kernel
theorem dX11_init_130 : decode cX11_init 130 = .ok (.if_icmp .ge 16, 3) := by decide +kernel
theorem dX11_init_133 : decode cX11_init 133 = .ok (.aload_n 0, 1) := by decide +kernel
theorem dX11_init_134 : decode cX11_init 134 = .ok (.getfield 7, 3) := by decide +kernel
theorem dX11_init_137 : decode cX11_init 137 = .ok (.iload_n 1, 1) := by decide +kernel
theorem dX11_init_138 : decode cX11_init 138 = .ok (.iconst (-1), 1) := by decide +kernel
theorem dX11_init_139 : decode cX11_init 139 = .ok (.iastore, 1) := by decide +kernel
theorem dX11_init_140 : decode cX11_init 140 = .ok (.iinc 1 1, 3) := by decide +kernel
theorem dX11_init_143 : decode cX11_init 143 = .ok (.goto (-16), 3) := by decide +kernel
theorem dX11_init_146 : decode cX11_init 146 = .ok (.iconst 0, 1) := by decide +kernel
theorem dX11_init_147 : decode cX11_init 147 = .ok (.istore_n 1, 1) := by decide +kernel
theorem dX11_init_148 : decode cX11_init 148 = .ok (.iload_n 1, 1) := by decide +kernel
theorem dX11_init_149 : decode cX11_init 149 = .ok (.iconst 4, 1) := by decide +kernel
theorem dX11_init_150 : decode cX11_init 150 = .ok (.if_icmp .ge 16, 3) := by decide +kernel
theorem dX11_init_153 : decode cX11_init 153 = .ok (.aload_n 0, 1) := by decide +kernel
theorem dX11_init_154 : decode cX11_init 154 = .ok (.getfield 19, 3) := by decide +kernel
theorem dX11_init_157 : decode cX11_init 157 = .ok (.iload_n 1, 1) := by decide +kernel
theorem dX11_init_158 : decode cX11_init 158 = .ok (.iconst (-1), 1) := by decide +kernel
theorem dX11_init_159 : decode cX11_init 159 = .ok (.iastore, 1) := by decide +kernel
theorem dX11_init_160 : decode cX11_init 160 = .ok (.iinc 1 1, 3) := by decide +kernel
theorem dX11_init_163 : decode cX11_init 163 = .ok (.goto (-15), 3) := by decide +kernel
theorem dX11_init_166 : decode cX11_init 166 = .ok (.iconst 0, 1) := by decide +kernel
theorem dX11_init_167 : decode cX11_init 167 = .ok (.istore_n 1, 1) := by decide +kernel
theorem dX11_init_168 : decode cX11_init 168 = .ok (.iload_n 1, 1) := by decide +kernel
theorem dX11_init_169 : decode cX11_init 169 = .ok (.iconst 3, 1) := by decide +kernel
theorem dX11_init_170 : decode cX11_init 170 = .ok (.if_icmp .ge 16, 3) := by decide +kernel
theorem dX11_init_173 : decode cX11_init 173 = .ok (.aload_n 0, 1) := by decide +kernel
theorem dX11_init_174 : decode cX11_init 174 = .ok (.getfield 41, 3) := by decide +kernel
theorem dX11_init_177 : decode cX11_init 177 = .ok (.iload_n 1, 1) := by decide +kernel
theorem dX11_init_178 : decode cX11_init 178 = .ok (.iconst (-1), 1) := by decide +kernel
theorem dX11_init_179 : decode cX11_init 179 = .ok (.iastore, 1) := by decide +kernel
theorem dX11_init_180 : decode cX11_init 180 = .ok (.iinc 1 1, 3) := by decide +kernel
theorem dX11_init_183 : decode cX11_init 183 = .ok (.goto (-15), 3) := by decide +kernel
theorem dX11_init_186 : decode cX11_init 186 = .ok (.return_, 1) := by decide +kernel
theorem dX11_in_0 : decode cX11_in 0 = .ok (.lload_n 0, 1) := by decide +kernel
theorem dX11_in_1 : decode cX11_in 1 = .ok (.lload_n 2, 1) := by decide +kernel
theorem dX11_in_2 : decode cX11_in 2 = .ok (.lcmp, 1) := by decide +kernel
theorem dX11_in_3 : decode cX11_in 3 = .ok (.ifCond .lt 14, 3) := by decide +kernel
theorem dX11_in_6 : decode cX11_in 6 = .ok (.lload_n 0, 1) := by decide +kernel
theorem dX11_in_7 : decode cX11_in 7 = .ok (.lload 4, 2) := by decide +kernel
theorem dX11_in_9 : decode cX11_in 9 = .ok (.lcmp, 1) := by decide +kernel
theorem dX11_in_10 : decode cX11_in 10 = .ok (.ifCond .gt 7, 3) := by decide +kernel
theorem dX11_in_13 : decode cX11_in 13 = .ok (.iconst 1, 1) := by decide +kernel
theorem dX11_in_14 : decode cX11_in 14 = .ok (.goto 4, 3) := by decide +kernel
theorem dX11_in_17 : decode cX11_in 17 = .ok (.iconst 0, 1) := by decide +kernel
theorem dX11_in_18 : decode cX11_in 18 = .ok (.ireturn, 1) := by decide +kernel
theorem dX11_has_0 : decode cX11_has 0 = .ok (.iload_n 0, 1) := by decide +kernel
theorem dX11_has_1 : decode cX11_has 1 = .ok (.iload_n 1, 1) := by decide +kernel
theorem dX11_has_2 : decode cX11_has 2 = .ok (.ishr, 1) := by decide +kernel
theorem dX11_has_3 : decode cX11_has 3 = .ok (.iconst 1, 1) := by decide +kernel
theorem dX11_has_4 : decode cX11_has 4 = .ok (.iand, 1) := by decide +kernel
theorem dX11_has_5 : decode cX11_has 5 = .ok (.iconst 1, 1) := by decide +kernel
theorem dX11_has_6 : decode cX11_has 6 = .ok (.if_icmp .ne 7, 3) := by decide +kernel
theorem dX11_has_9 : decode cX11_has 9 = .ok (.iconst 1, 1) := by decide +kernel
theorem dX11_has_10 : decode cX11_has 10 = .ok (.goto 4, 3) := by decide +kernel
theorem dX11_has_13 : decode cX11_has 13 = .ok (.iconst 0, 1) := by decide +kernel
theorem dX11_has_14 : decode cX11_has 14 = .ok (.ireturn, 1) := by decide +kernel
theorem dX11_bits_0 : decode cX11_bits 0 = .ok (.iconst 0, 1) := by decide +kernel
theorem dX11_bits_1 : decode cX11_bits 1 = .ok (.istore_n 1, 1) := by decide +kernel
theorem dX11_bits_2 : decode cX11_bits 2 = .ok (.iconst 0, 1) := by decide +kernel
theorem dX11_bits_3 : decode cX11_bits 3 = .ok (.istore_n 2, 1) := by decide +kernel
theorem dX11_bits_4 : decode cX11_bits 4 = .ok (.iload_n 2, 1) := by decide +kernel
theorem dX11_bits_5 : decode cX11_bits 5 = .ok (.bipush 14, 2) := by decide +kernel
theorem dX11_bits_7 : decode cX11_bits 7 = .ok (.if_icmp .ge 17, 3) := by decide +kernel
theorem dX11_bits_10 : decode cX11_bits 10 = .ok (.iload_n 1, 1) := by decide +kernel
theorem dX11_bits_11 : decode cX11_bits 11 = .ok (.iload_n 0, 1) := by decide +kernel
theorem dX11_bits_12 : decode cX11_bits 12 = .ok (.iload_n 2, 1) := by decide +kernel
theorem dX11_bits_13 : decode cX11_bits 13 = .ok (.ishr, 1) := by decide +kernel
theorem dX11_bits_14 : decode cX11_bits 14 = .ok (.iconst 1, 1) := by decide +kernel
theorem dX11_bits_15 : decode cX11_bits 15 = .ok (.iand, 1) := by decide +kernel
theorem dX11_bits_16 : decode cX11_bits 16 = .ok (.iadd, 1) := by decide +kernel
theorem dX11_bits_17 : decode cX11_bits 17 = .ok (.istore_n 1, 1) := by decide +kernel
theorem dX11_bits_18 : decode cX11_bits 18 = .ok (.iinc 2 1, 3) := by decide +kernel
theorem dX11_bits_21 : decode cX11_bits 21 = .ok (.goto (-17), 3) := by decide +kernel
theorem dX11_bits_24 : decode cX11_bits 24 = .ok (.iload_n 1, 1) := by decide +kernel
theorem dX11_bits_25 : decode cX11_bits 25 = .ok (.ireturn, 1) := by decide +kernel
theorem dX11_lesser_0 : decode cX11_lesser 0 = .ok (.iload_n 0, 1) := by decide +kernel
theorem dX11_lesser_1 : decode cX11_lesser 1 = .ok (.iload_n 1, 1) := by decide +kernel
theorem dX11_lesser_2 : decode cX11_lesser 2 = .ok (.if_icmp .ge 7, 3) := by decide +kernel
theorem dX11_lesser_5 : decode cX11_lesser 5 = .ok (.iload_n 0, 1) := by decide +kernel
theorem dX11_lesser_6 : decode cX11_lesser 6 = .ok (.goto 4, 3) := by decide +kernel
theorem dX11_lesser_9 : decode cX11_lesser 9 = .ok (.iload_n 1, 1) := by decide +kernel
theorem dX11_lesser_10 : decode cX11_lesser 10 = .ok (.ireturn, 1) := by decide +kernel
theorem dX11_larger_0 : decode cX11_larger 0 = .ok (.iload_n 0, 1) := by decide +kernel
theorem dX11_larger_1 : decode cX11_larger 1 = .ok (.iload_n 1, 1) := by decide +kernel
theorem dX11_larger_2 : decode cX11_larger 2 = .ok (.if_icmp .ge 7, 3) := by decide +kernel
theorem dX11_larger_5 : decode cX11_larger 5 = .ok (.iload_n 1, 1) := by decide +kernel
theorem dX11_larger_6 : decode cX11_larger 6 = .ok (.goto 4, 3) := by decide +kernel
theorem dX11_larger_9 : decode cX11_larger 9 = .ok (.iload_n 0, 1) := by decide +kernel
theorem dX11_larger_10 : decode cX11_larger 10 = .ok (.ireturn, 1) := by decide +kernel
theorem dX11_finds_0 : decode cX11_finds 0 = .ok (.aload_n 0, 1) := by decide +kernel
theorem dX11_finds_1 : decode cX11_finds 1 = .ok (.iload_n 1, 1) := by decide +kernel
theorem dX11_finds_2 : decode cX11_finds 2 = .ok (.putfield 60, 3) := by decide +kernel
theorem dX11_finds_5 : decode cX11_finds 5 = .ok (.aload_n 0, 1) := by decide +kernel
theorem dX11_finds_6 : decode cX11_finds 6 = .ok (.getfield 48, 3) := by decide +kernel
theorem dX11_finds_9 : decode cX11_finds 9 = .ok (.iload_n 1, 1) := by decide +kernel
theorem dX11_finds_10 : decode cX11_finds 10 = .ok (.dup2, 1) := by decide +kernel
theorem dX11_finds_11 : decode cX11_finds 11 = .ok (.iaload, 1) := by decide +kernel
theorem dX11_finds_12 : decode cX11_finds 12 = .ok (.iconst 1, 1) := by decide +kernel
theorem dX11_finds_13 : decode cX11_finds 13 = .ok (.iadd, 1) := by decide +kernel
theorem dX11_finds_14 : decode cX11_finds 14 = .ok (.iastore, 1) := by decide +kernel
theorem dX11_finds_15 : decode cX11_finds 15 = .ok (.bipush (-3), 2) := by decide +kernel
theorem dX11_finds_17 : decode cX11_finds 17 = .ok (.ireturn, 1) := by decide +kernel
theorem dX11_tells_0 : decode cX11_tells 0 = .ok (.aload_n 0, 1) := by decide +kernel
theorem dX11_tells_1 : decode cX11_tells 1 = .ok (.iload_n 1, 1) := by decide +kernel
theorem dX11_tells_2 : decode cX11_tells 2 = .ok (.putfield 64, 3) := by decide +kernel
theorem dX11_tells_5 : decode cX11_tells 5 = .ok (.iconst 1, 1) := by decide +kernel
theorem dX11_tells_6 : decode cX11_tells 6 = .ok (.ireturn, 1) := by decide +kernel
theorem dX11_isRow_0 : decode cX11_isRow 0 = .ok (.iload_n 1, 1) := by decide +kernel
theorem dX11_isRow_1 : decode cX11_isRow 1 = .ok (.i2l, 1) := by decide +kernel
theorem dX11_isRow_2 : decode cX11_isRow 2 = .ok (.lconst 0, 1) := by decide +kernel
theorem dX11_isRow_3 : decode cX11_isRow 3 = .ok (.ldc2_w 67, 3) := by decide +kernel
theorem dX11_isRow_6 : decode cX11_isRow 6 = .ok (.invokestatic 69, 3) := by decide +kernel
theorem dX11_isRow_9 : decode cX11_isRow 9 = .ok (.ireturn, 1) := by decide +kernel
theorem dX11_isText_0 : decode cX11_isText 0 = .ok (.iload_n 1, 1) := by decide +kernel
theorem dX11_isText_1 : decode cX11_isText 1 = .ok (.i2l, 1) := by decide +kernel
theorem dX11_isText_2 : decode cX11_isText 2 = .ok (.lconst 0, 1) := by decide +kernel
theorem dX11_isText_3 : decode cX11_isText 3 = .ok (.ldc2_w 73, 3) := by decide +kernel
theorem dX11_isText_6 : decode cX11_isText 6 = .ok (.invokestatic 69, 3) := by decide +kernel
theorem dX11_isText_9 : decode cX11_isText 9 = .ok (.ireturn, 1) := by decide +kernel
theorem dX11_anew_0 : decode cX11_anew 0 = .ok (.aload_n 0, 1) := by decide +kernel
theorem dX11_anew_1 : decode cX11_anew 1 = .ok (.getfield 7, 3) := by decide +kernel
theorem dX11_anew_4 : decode cX11_anew 4 = .ok (.iload_n 1, 1) := by decide +kernel
theorem dX11_anew_5 : decode cX11_anew 5 = .ok (.iload_n 2, 1) := by decide +kernel
theorem dX11_anew_6 : decode cX11_anew 6 = .ok (.iastore, 1) := by decide +kernel
theorem dX11_anew_7 : decode cX11_anew 7 = .ok (.iconst 0, 1) := by decide +kernel
theorem dX11_anew_8 : decode cX11_anew 8 = .ok (.istore_n 3, 1) := by decide +kernel
theorem dX11_anew_9 : decode cX11_anew 9 = .ok (.iload_n 3, 1) := by decide +kernel
theorem dX11_anew_10 : decode cX11_anew 10 = .ok (.iload_n 2, 1) := by decide +kernel
theorem dX11_anew_11 : decode cX11_anew 11 = .ok (.if_icmp .ge 21, 3) := by decide +kernel
theorem dX11_anew_14 : decode cX11_anew 14 = .ok (.aload_n 0, 1) := by decide +kernel
theorem dX11_anew_15 : decode cX11_anew 15 = .ok (.getfield 13, 3) := by decide +kernel
theorem dX11_anew_18 : decode cX11_anew 18 = .ok (.bipush 40, 2) := by decide +kernel
theorem dX11_anew_20 : decode cX11_anew 20 = .ok (.iload_n 1, 1) := by decide +kernel
theorem dX11_anew_21 : decode cX11_anew 21 = .ok (.imul, 1) := by decide +kernel
theorem dX11_anew_22 : decode cX11_anew 22 = .ok (.iload_n 3, 1) := by decide +kernel
theorem dX11_anew_23 : decode cX11_anew 23 = .ok (.iadd, 1) := by decide +kernel
theorem dX11_anew_24 : decode cX11_anew 24 = .ok (.iconst 0, 1) := by decide +kernel
theorem dX11_anew_25 : decode cX11_anew 25 = .ok (.iastore, 1) := by decide +kernel
theorem dX11_anew_26 : decode cX11_anew 26 = .ok (.iinc 3 1, 3) := by decide +kernel
theorem dX11_anew_29 : decode cX11_anew 29 = .ok (.goto (-20), 3) := by decide +kernel
theorem dX11_anew_32 : decode cX11_anew 32 = .ok (.return_, 1) := by decide +kernel
theorem dX11_row_0 : decode cX11_row 0 = .ok (.aload_n 0, 1) := by decide +kernel
theorem dX11_row_1 : decode cX11_row 1 = .ok (.iload_n 1, 1) := by decide +kernel
theorem dX11_row_2 : decode cX11_row 2 = .ok (.invokevirtual 75, 3) := by decide +kernel
theorem dX11_row_5 : decode cX11_row 5 = .ok (.ifCond .eq 9, 3) := by decide +kernel
theorem dX11_row_8 : decode cX11_row 8 = .ok (.iload_n 2, 1) := by decide +kernel
theorem dX11_row_9 : decode cX11_row 9 = .ok (.bipush 40, 2) := by decide +kernel
theorem dX11_row_11 : decode cX11_row 11 = .ok (.if_icmp .le 5, 3) := by decide +kernel
theorem dX11_row_14 : decode cX11_row 14 = .ok (.iconst (-1), 1) := by decide +kernel
theorem dX11_row_15 : decode cX11_row 15 = .ok (.ireturn, 1) := by decide +kernel
theorem dX11_row_16 : decode cX11_row 16 = .ok (.iload_n 2, 1) := by decide +kernel
theorem dX11_row_17 : decode cX11_row 17 = .ok (.ifCond .ge 9, 3) := by decide +kernel
theorem dX11_row_20 : decode cX11_row 20 = .ok (.aload_n 0, 1) := by decide +kernel
theorem dX11_row_21 : decode cX11_row 21 = .ok (.iconst 5, 1) := by decide +kernel
theorem dX11_row_22 : decode cX11_row 22 = .ok (.invokevirtual 79, 3) := by decide +kernel
theorem dX11_row_25 : decode cX11_row 25 = .ok (.ireturn, 1) := by decide +kernel
theorem dX11_row_26 : decode cX11_row 26 = .ok (.aload_n 0, 1) := by decide +kernel
theorem dX11_row_27 : decode cX11_row 27 = .ok (.iload_n 1, 1) := by decide +kernel
theorem dX11_row_28 : decode cX11_row 28 = .ok (.iload_n 2, 1) := by decide +kernel
theorem dX11_row_29 : decode cX11_row 29 = .ok (.invokevirtual 83, 3) := by decide +kernel
theorem dX11_row_32 : decode cX11_row 32 = .ok (.iload_n 2, 1) := by decide +kernel
theorem dX11_row_33 : decode cX11_row 33 = .ok (.ireturn, 1) := by decide +kernel
theorem dX11_lay_0 : decode cX11_lay 0 = .ok (.aload_n 0, 1) := by decide +kernel
theorem dX11_lay_1 : decode cX11_lay 1 = .ok (.iload_n 1, 1) := by decide +kernel
theorem dX11_lay_2 : decode cX11_lay 2 = .ok (.invokevirtual 75, 3) := by decide +kernel
theorem dX11_lay_5 : decode cX11_lay 5 = .ok (.ifCond .ne 5, 3) := by decide +kernel
theorem dX11_lay_8 : decode cX11_lay 8 = .ok (.iconst (-1), 1) := by decide +kernel
theorem dX11_lay_9 : decode cX11_lay 9 = .ok (.ireturn, 1) := by decide +kernel
theorem dX11_lay_10 : decode cX11_lay 10 = .ok (.aload_n 0, 1) := by decide +kernel
theorem dX11_lay_11 : decode cX11_lay 11 = .ok (.getfield 7, 3) := by decide +kernel
theorem dX11_lay_14 : decode cX11_lay 14 = .ok (.iload_n 1, 1) := by decide +kernel
theorem dX11_lay_15 : decode cX11_lay 15 = .ok (.iaload, 1) := by decide +kernel
theorem dX11_lay_16 : decode cX11_lay 16 = .ok (.ifCond .ge 9, 3) := by decide +kernel
theorem dX11_lay_19 : decode cX11_lay 19 = .ok (.aload_n 0, 1) := by decide +kernel
theorem dX11_lay_20 : decode cX11_lay 20 = .ok (.iconst 1, 1) := by decide +kernel
theorem dX11_lay_21 : decode cX11_lay 21 = .ok (.invokevirtual 79, 3) := by decide +kernel
theorem dX11_lay_24 : decode cX11_lay 24 = .ok (.ireturn, 1) := by decide +kernel
theorem dX11_lay_25 : decode cX11_lay 25 = .ok (.iload_n 2, 1) := by decide +kernel
theorem dX11_lay_26 : decode cX11_lay 26 = .ok (.i2l, 1) := by decide +kernel
theorem dX11_lay_27 : decode cX11_lay 27 = .ok (.lconst 0, 1) := by decide +kernel
theorem dX11_lay_28 : decode cX11_lay 28 = .ok (.aload_n 0, 1) := by decide +kernel
theorem dX11_lay_29 : decode cX11_lay 29 = .ok (.getfield 7, 3) := by decide +kernel
theorem dX11_lay_32 : decode cX11_lay 32 = .ok (.iload_n 1, 1) := by decide +kernel
theorem dX11_lay_33 : decode cX11_lay 33 = .ok (.iaload, 1) := by decide +kernel
theorem dX11_lay_34 : decode cX11_lay 34 = .ok (.iconst 1, 1) := by decide +kernel
theorem dX11_lay_35 : decode cX11_lay 35 = .ok (.isub, 1) := by decide +kernel
theorem dX11_lay_36 : decode cX11_lay 36 = .ok (.i2l, 1) := by decide +kernel
theorem dX11_lay_37 : decode cX11_lay 37 = .ok (.invokestatic 69, 3) := by decide +kernel
theorem dX11_lay_40 : decode cX11_lay 40 = .ok (.ifCond .ne 9, 3) := by decide +kernel
theorem dX11_lay_43 : decode cX11_lay 43 = .ok (.aload_n 0, 1) := by decide +kernel
theorem dX11_lay_44 : decode cX11_lay 44 = .ok (.iconst 2, 1) := by decide +kernel
theorem dX11_lay_45 : decode cX11_lay 45 = .ok (.invokevirtual 79, 3) := by decide +kernel
theorem dX11_lay_48 : decode cX11_lay 48 = .ok (.ireturn, 1) := by decide +kernel
theorem dX11_lay_49 : decode cX11_lay 49 = .ok (.aload_n 0, 1) := by decide +kernel
theorem dX11_lay_50 : decode cX11_lay 50 = .ok (.getfield 13, 3) := by decide +kernel
theorem dX11_lay_53 : decode cX11_lay 53 = .ok (.bipush 40, 2) := by decide +kernel
theorem dX11_lay_55 : decode cX11_lay 55 = .ok (.iload_n 1, 1) := by decide +kernel
theorem dX11_lay_56 : decode cX11_lay 56 = .ok (.imul, 1) := by decide +kernel
theorem dX11_lay_57 : decode cX11_lay 57 = .ok (.iload_n 2, 1) := by decide +kernel
theorem dX11_lay_58 : decode cX11_lay 58 = .ok (.iadd, 1) := by decide +kernel
theorem dX11_lay_59 : decode cX11_lay 59 = .ok (.iaload, 1) := by decide +kernel
theorem dX11_lay_60 : decode cX11_lay 60 = .ok (.istore 4, 2) := by decide +kernel
theorem dX11_lay_62 : decode cX11_lay 62 = .ok (.aload_n 0, 1) := by decide +kernel
theorem dX11_lay_63 : decode cX11_lay 63 = .ok (.getfield 13, 3) := by decide +kernel
theorem dX11_lay_66 : decode cX11_lay 66 = .ok (.bipush 40, 2) := by decide +kernel
theorem dX11_lay_68 : decode cX11_lay 68 = .ok (.iload_n 1, 1) := by decide +kernel
theorem dX11_lay_69 : decode cX11_lay 69 = .ok (.imul, 1) := by decide +kernel
theorem dX11_lay_70 : decode cX11_lay 70 = .ok (.iload_n 2, 1) := by decide +kernel
theorem dX11_lay_71 : decode cX11_lay 71 = .ok (.iadd, 1) := by decide +kernel
theorem dX11_lay_72 : decode cX11_lay 72 = .ok (.iload_n 3, 1) := by decide +kernel
theorem dX11_lay_73 : decode cX11_lay 73 = .ok (.iastore, 1) := by decide +kernel
theorem dX11_lay_74 : decode cX11_lay 74 = .ok (.aload_n 0, 1) := by decide +kernel
theorem dX11_lay_75 : decode cX11_lay 75 = .ok (.iload 4, 2) := by decide +kernel
theorem dX11_lay_77 : decode cX11_lay 77 = .ok (.invokevirtual 87, 3) := by decide +kernel
theorem dX11_lay_80 : decode cX11_lay 80 = .ok (.ireturn, 1) := by decide +kernel
theorem dX11_at_0 : decode cX11_at 0 = .ok (.aload_n 0, 1) := by decide +kernel
theorem dX11_at_1 : decode cX11_at 1 = .ok (.iload_n 1, 1) := by decide +kernel
theorem dX11_at_2 : decode cX11_at 2 = .ok (.invokevirtual 75, 3) := by decide +kernel
theorem dX11_at_5 : decode cX11_at 5 = .ok (.ifCond .ne 5, 3) := by decide +kernel
theorem dX11_at_8 : decode cX11_at 8 = .ok (.iconst (-1), 1) := by decide +kernel
theorem dX11_at_9 : decode cX11_at 9 = .ok (.ireturn, 1) := by decide +kernel
theorem dX11_at_10 : decode cX11_at 10 = .ok (.aload_n 0, 1) := by decide +kernel
theorem dX11_at_11 : decode cX11_at 11 = .ok (.getfield 7, 3) := by decide +kernel
theorem dX11_at_14 : decode cX11_at 14 = .ok (.iload_n 1, 1) := by decide +kernel
theorem dX11_at_15 : decode cX11_at 15 = .ok (.iaload, 1) := by decide +kernel
theorem dX11_at_16 : decode cX11_at 16 = .ok (.ifCond .ge 9, 3) := by decide +kernel
theorem dX11_at_19 : decode cX11_at 19 = .ok (.aload_n 0, 1) := by decide +kernel
theorem dX11_at_20 : decode cX11_at 20 = .ok (.iconst 1, 1) := by decide +kernel
theorem dX11_at_21 : decode cX11_at 21 = .ok (.invokevirtual 79, 3) := by decide +kernel
theorem dX11_at_24 : decode cX11_at 24 = .ok (.ireturn, 1) := by decide +kernel
theorem dX11_at_25 : decode cX11_at 25 = .ok (.iload_n 2, 1) := by decide +kernel
theorem dX11_at_26 : decode cX11_at 26 = .ok (.i2l, 1) := by decide +kernel
theorem dX11_at_27 : decode cX11_at 27 = .ok (.lconst 0, 1) := by decide +kernel
theorem dX11_at_28 : decode cX11_at 28 = .ok (.aload_n 0, 1) := by decide +kernel
theorem dX11_at_29 : decode cX11_at 29 = .ok (.getfield 7, 3) := by decide +kernel
theorem dX11_at_32 : decode cX11_at 32 = .ok (.iload_n 1, 1) := by decide +kernel
theorem dX11_at_33 : decode cX11_at 33 = .ok (.iaload, 1) := by decide +kernel
theorem dX11_at_34 : decode cX11_at 34 = .ok (.iconst 1, 1) := by decide +kernel
theorem dX11_at_35 : decode cX11_at 35 = .ok (.isub, 1) := by decide +kernel
theorem dX11_at_36 : decode cX11_at 36 = .ok (.i2l, 1) := by decide +kernel
theorem dX11_at_37 : decode cX11_at 37 = .ok (.invokestatic 69, 3) := by decide +kernel
theorem dX11_at_40 : decode cX11_at 40 = .ok (.ifCond .eq 21, 3) := by decide +kernel
theorem dX11_at_43 : decode cX11_at 43 = .ok (.aload_n 0, 1) := by decide +kernel
theorem dX11_at_44 : decode cX11_at 44 = .ok (.aload_n 0, 1) := by decide +kernel
theorem dX11_at_45 : decode cX11_at 45 = .ok (.getfield 13, 3) := by decide +kernel
theorem dX11_at_48 : decode cX11_at 48 = .ok (.bipush 40, 2) := by decide +kernel
theorem dX11_at_50 : decode cX11_at 50 = .ok (.iload_n 1, 1) := by decide +kernel
theorem dX11_at_51 : decode cX11_at 51 = .ok (.imul, 1) := by decide +kernel
theorem dX11_at_52 : decode cX11_at 52 = .ok (.iload_n 2, 1) := by decide +kernel
theorem dX11_at_53 : decode cX11_at 53 = .ok (.iadd, 1) := by decide +kernel
theorem dX11_at_54 : decode cX11_at 54 = .ok (.iaload, 1) := by decide +kernel
theorem dX11_at_55 : decode cX11_at 55 = .ok (.invokevirtual 87, 3) := by decide +kernel
theorem dX11_at_58 : decode cX11_at 58 = .ok (.goto 8, 3) := by decide +kernel
theorem dX11_at_61 : decode cX11_at 61 = .ok (.aload_n 0, 1) := by decide +kernel
theorem dX11_at_62 : decode cX11_at 62 = .ok (.iconst 2, 1) := by decide +kernel
theorem dX11_at_63 : decode cX11_at 63 = .ok (.invokevirtual 79, 3) := by decide +kernel
theorem dX11_at_66 : decode cX11_at 66 = .ok (.ireturn, 1) := by decide +kernel
theorem dX11_tear_0 : decode cX11_tear 0 = .ok (.aload_n 0, 1) := by decide +kernel
theorem dX11_tear_1 : decode cX11_tear 1 = .ok (.iload_n 1, 1) := by decide +kernel
theorem dX11_tear_2 : decode cX11_tear 2 = .ok (.invokevirtual 75, 3) := by decide +kernel
theorem dX11_tear_5 : decode cX11_tear 5 = .ok (.ifCond .ne 5, 3) := by decide +kernel
theorem dX11_tear_8 : decode cX11_tear 8 = .ok (.iconst (-1), 1) := by decide +kernel
theorem dX11_tear_9 : decode cX11_tear 9 = .ok (.ireturn, 1) := by decide +kernel
theorem dX11_tear_10 : decode cX11_tear 10 = .ok (.aload_n 0, 1) := by decide +kernel
theorem dX11_tear_11 : decode cX11_tear 11 = .ok (.getfield 7, 3) := by decide +kernel
theorem dX11_tear_14 : decode cX11_tear 14 = .ok (.iload_n 1, 1) := by decide +kernel
theorem dX11_tear_15 : decode cX11_tear 15 = .ok (.iaload, 1) := by decide +kernel
theorem dX11_tear_16 : decode cX11_tear 16 = .ok (.ifCond .ge 9, 3) := by decide +kernel
theorem dX11_tear_19 : decode cX11_tear 19 = .ok (.aload_n 0, 1) := by decide +kernel
theorem dX11_tear_20 : decode cX11_tear 20 = .ok (.iconst 1, 1) := by decide +kernel
theorem dX11_tear_21 : decode cX11_tear 21 = .ok (.invokevirtual 79, 3) := by decide +kernel
theorem dX11_tear_24 : decode cX11_tear 24 = .ok (.ireturn, 1) := by decide +kernel
theorem dX11_tear_25 : decode cX11_tear 25 = .ok (.aload_n 0, 1) := by decide +kernel
theorem dX11_tear_26 : decode cX11_tear 26 = .ok (.getfield 7, 3) := by decide +kernel
theorem dX11_tear_29 : decode cX11_tear 29 = .ok (.iload_n 1, 1) := by decide +kernel
theorem dX11_tear_30 : decode cX11_tear 30 = .ok (.iconst (-1), 1) := by decide +kernel
theorem dX11_tear_31 : decode cX11_tear 31 = .ok (.iastore, 1) := by decide +kernel
theorem dX11_tear_32 : decode cX11_tear 32 = .ok (.iconst 1, 1) := by decide +kernel
theorem dX11_tear_33 : decode cX11_tear 33 = .ok (.ireturn, 1) := by decide +kernel
theorem dX11_copy_0 : decode cX11_copy 0 = .ok (.aload_n 0, 1) := by decide +kernel
theorem dX11_copy_1 : decode cX11_copy 1 = .ok (.iload_n 1, 1) := by decide +kernel
theorem dX11_copy_2 : decode cX11_copy 2 = .ok (.invokevirtual 75, 3) := by decide +kernel
theorem dX11_copy_5 : decode cX11_copy 5 = .ok (.ifCond .eq 11, 3) := by decide +kernel
theorem dX11_copy_8 : decode cX11_copy 8 = .ok (.aload_n 0, 1) := by decide +kernel
theorem dX11_copy_9 : decode cX11_copy 9 = .ok (.iload_n 3, 1) := by decide +kernel
theorem dX11_copy_10 : decode cX11_copy 10 = .ok (.invokevirtual 75, 3) := by decide +kernel
theorem dX11_copy_13 : decode cX11_copy 13 = .ok (.ifCond .ne 5, 3) := by decide +kernel
theorem dX11_copy_16 : decode cX11_copy 16 = .ok (.iconst (-1), 1) := by decide +kernel
theorem dX11_copy_17 : decode cX11_copy 17 = .ok (.ireturn, 1) := by decide +kernel
theorem dX11_copy_18 : decode cX11_copy 18 = .ok (.iload 5, 2) := by decide +kernel
theorem dX11_copy_20 : decode cX11_copy 20 = .ok (.ifCond .ge 9, 3) := by decide +kernel
theorem dX11_copy_23 : decode cX11_copy 23 = .ok (.aload_n 0, 1) := by decide +kernel
theorem dX11_copy_24 : decode cX11_copy 24 = .ok (.iconst 5, 1) := by decide +kernel
theorem dX11_copy_25 : decode cX11_copy 25 = .ok (.invokevirtual 79, 3) := by decide +kernel
theorem dX11_copy_28 : decode cX11_copy 28 = .ok (.ireturn, 1) := by decide +kernel
theorem dX11_copy_29 : decode cX11_copy 29 = .ok (.aload_n 0, 1) := by decide +kernel
theorem dX11_copy_30 : decode cX11_copy 30 = .ok (.getfield 7, 3) := by decide +kernel
theorem dX11_copy_33 : decode cX11_copy 33 = .ok (.iload_n 1, 1) := by decide +kernel
theorem dX11_copy_34 : decode cX11_copy 34 = .ok (.iaload, 1) := by decide +kernel
theorem dX11_copy_35 : decode cX11_copy 35 = .ok (.ifCond .lt 12, 3) := by decide +kernel
theorem dX11_copy_38 : decode cX11_copy 38 = .ok (.aload_n 0, 1) := by decide +kernel
theorem dX11_copy_39 : decode cX11_copy 39 = .ok (.getfield 7, 3) := by decide +kernel
theorem dX11_copy_42 : decode cX11_copy 42 = .ok (.iload_n 3, 1) := by decide +kernel
theorem dX11_copy_43 : decode cX11_copy 43 = .ok (.iaload, 1) := by decide +kernel
theorem dX11_copy_44 : decode cX11_copy 44 = .ok (.ifCond .ge 9, 3) := by decide +kernel
theorem dX11_copy_47 : decode cX11_copy 47 = .ok (.aload_n 0, 1) := by decide +kernel
theorem dX11_copy_48 : decode cX11_copy 48 = .ok (.iconst 1, 1) := by decide +kernel
theorem dX11_copy_49 : decode cX11_copy 49 = .ok (.invokevirtual 79, 3) := by decide +kernel
theorem dX11_copy_52 : decode cX11_copy 52 = .ok (.ireturn, 1) := by decide +kernel
theorem dX11_copy_53 : decode cX11_copy 53 = .ok (.iload_n 2, 1) := by decide +kernel
theorem dX11_copy_54 : decode cX11_copy 54 = .ok (.ifCond .lt 43, 3) := by decide +kernel
theorem dX11_copy_57 : decode cX11_copy 57 = .ok (.iload 4, 2) := by decide +kernel
theorem dX11_copy_59 : decode cX11_copy 59 = .ok (.ifCond .lt 38, 3) := by decide +kernel
theorem dX11_copy_62 : decode cX11_copy 62 = .ok (.iload_n 2, 1) := by decide +kernel
theorem dX11_copy_63 : decode cX11_copy 63 = .ok (.i2l, 1) := by decide +kernel
theorem dX11_copy_64 : decode cX11_copy 64 = .ok (.iload 5, 2) := by decide +kernel
theorem dX11_copy_66 : decode cX11_copy 66 = .ok (.i2l, 1) := by decide +kernel
theorem dX11_copy_67 : decode cX11_copy 67 = .ok (.ladd, 1) := by decide +kernel
theorem dX11_copy_68 : decode cX11_copy 68 = .ok (.aload_n 0, 1) := by decide +kernel
theorem dX11_copy_69 : decode cX11_copy 69 = .ok (.getfield 7, 3) := by decide +kernel
theorem dX11_copy_72 : decode cX11_copy 72 = .ok (.iload_n 1, 1) := by decide +kernel
theorem dX11_copy_73 : decode cX11_copy 73 = .ok (.iaload, 1) := by decide +kernel
theorem dX11_copy_74 : decode cX11_copy 74 = .ok (.i2l, 1) := by decide +kernel
theorem dX11_copy_75 : decode cX11_copy 75 = .ok (.lcmp, 1) := by decide +kernel
theorem dX11_copy_76 : decode cX11_copy 76 = .ok (.ifCond .gt 21, 3) := by decide +kernel
theorem dX11_copy_79 : decode cX11_copy 79 = .ok (.iload 4, 2) := by decide +kernel
theorem dX11_copy_81 : decode cX11_copy 81 = .ok (.i2l, 1) := by decide +kernel
theorem dX11_copy_82 : decode cX11_copy 82 = .ok (.iload 5, 2) := by decide +kernel
theorem dX11_copy_84 : decode cX11_copy 84 = .ok (.i2l, 1) := by decide +kernel
theorem dX11_copy_85 : decode cX11_copy 85 = .ok (.ladd, 1) := by decide +kernel
theorem dX11_copy_86 : decode cX11_copy 86 = .ok (.aload_n 0, 1) := by decide +kernel
theorem dX11_copy_87 : decode cX11_copy 87 = .ok (.getfield 7, 3) := by decide +kernel
theorem dX11_copy_90 : decode cX11_copy 90 = .ok (.iload_n 3, 1) := by decide +kernel
theorem dX11_copy_91 : decode cX11_copy 91 = .ok (.iaload, 1) := by decide +kernel
theorem dX11_copy_92 : decode cX11_copy 92 = .ok (.i2l, 1) := by decide +kernel
theorem dX11_copy_93 : decode cX11_copy 93 = .ok (.lcmp, 1) := by decide +kernel
theorem dX11_copy_94 : decode cX11_copy 94 = .ok (.ifCond .le 9, 3) := by decide +kernel
theorem dX11_copy_97 : decode cX11_copy 97 = .ok (.aload_n 0, 1) := by decide +kernel
theorem dX11_copy_98 : decode cX11_copy 98 = .ok (.iconst 2, 1) := by decide +kernel
theorem dX11_copy_99 : decode cX11_copy 99 = .ok (.invokevirtual 79, 3) := by decide +kernel
theorem dX11_copy_102 : decode cX11_copy 102 = .ok (.ireturn, 1) := by decide +kernel
theorem dX11_copy_103 : decode cX11_copy 103 = .ok (.iconst 0, 1) := by decide +kernel
theorem dX11_copy_104 : decode cX11_copy 104 = .ok (.istore 6, 2) := by decide +kernel
theorem dX11_copy_106 : decode cX11_copy 106 = .ok (.iload 6, 2) := by decide +kernel
theorem dX11_copy_108 : decode cX11_copy 108 = .ok (.iload 5, 2) := by decide +kernel
theorem dX11_copy_110 : decode cX11_copy 110 = .ok (.if_icmp .ge 30, 3) := by decide +kernel
theorem dX11_copy_113 : decode cX11_copy 113 = .ok (.aload_n 0, 1) := by decide +kernel
theorem dX11_copy_114 : decode cX11_copy 114 = .ok (.getfield 16, 3) := by decide +kernel
theorem dX11_copy_117 : decode cX11_copy 117 = .ok (.iload 6, 2) := by decide +kernel
theorem dX11_copy_119 : decode cX11_copy 119 = .ok (.aload_n 0, 1) := by decide +kernel
theorem dX11_copy_120 : decode cX11_copy 120 = .ok (.getfield 13, 3) := by decide +kernel
theorem dX11_copy_123 : decode cX11_copy 123 = .ok (.bipush 40, 2) := by decide +kernel
theorem dX11_copy_125 : decode cX11_copy 125 = .ok (.iload_n 1, 1) := by decide +kernel
theorem dX11_copy_126 : decode cX11_copy 126 = .ok (.imul, 1) := by decide +kernel
theorem dX11_copy_127 : decode cX11_copy 127 = .ok (.iload_n 2, 1) := by decide +kernel
theorem dX11_copy_128 : decode cX11_copy 128 = .ok (.iadd, 1) := by decide +kernel
theorem dX11_copy_129 : decode cX11_copy 129 = .ok (.iload 6, 2) := by decide +kernel
theorem dX11_copy_131 : decode cX11_copy 131 = .ok (.iadd, 1) := by decide +kernel
theorem dX11_copy_132 : decode cX11_copy 132 = .ok (.iaload, 1) := by decide +kernel
theorem dX11_copy_133 : decode cX11_copy 133 = .ok (.iastore, 1) := by decide +kernel
theorem dX11_copy_134 : decode cX11_copy 134 = .ok (.iinc 6 1, 3) := by decide +kernel
theorem dX11_copy_137 : decode cX11_copy 137 = .ok (.goto (-31), 3) := by decide +kernel
theorem dX11_copy_140 : decode cX11_copy 140 = .ok (.iconst 0, 1) := by decide +kernel
theorem dX11_copy_141 : decode cX11_copy 141 = .ok (.istore 6, 2) := by decide +kernel
theorem dX11_copy_143 : decode cX11_copy 143 = .ok (.iload 6, 2) := by decide +kernel
theorem dX11_copy_145 : decode cX11_copy 145 = .ok (.iload 5, 2) := by decide +kernel
theorem dX11_copy_147 : decode cX11_copy 147 = .ok (.if_icmp .ge 31, 3) := by decide +kernel
theorem dX11_copy_150 : decode cX11_copy 150 = .ok (.aload_n 0, 1) := by decide +kernel
theorem dX11_copy_151 : decode cX11_copy 151 = .ok (.getfield 13, 3) := by decide +kernel
theorem dX11_copy_154 : decode cX11_copy 154 = .ok (.bipush 40, 2) := by decide +kernel
theorem dX11_copy_156 : decode cX11_copy 156 = .ok (.iload_n 3, 1) := by decide +kernel
theorem dX11_copy_157 : decode cX11_copy 157 = .ok (.imul, 1) := by decide +kernel
theorem dX11_copy_158 : decode cX11_copy 158 = .ok (.iload 4, 2) := by decide +kernel
theorem dX11_copy_160 : decode cX11_copy 160 = .ok (.iadd, 1) := by decide +kernel
theorem dX11_copy_161 : decode cX11_copy 161 = .ok (.iload 6, 2) := by decide +kernel
theorem dX11_copy_163 : decode cX11_copy 163 = .ok (.iadd, 1) := by decide +kernel
theorem dX11_copy_164 : decode cX11_copy 164 = .ok (.aload_n 0, 1) := by decide +kernel
theorem dX11_copy_165 : decode cX11_copy 165 = .ok (.getfield 16, 3) := by decide +kernel
theorem dX11_copy_168 : decode cX11_copy 168 = .ok (.iload 6, 2) := by decide +kernel
theorem dX11_copy_170 : decode cX11_copy 170 = .ok (.iaload, 1) := by decide +kernel
theorem dX11_copy_171 : decode cX11_copy 171 = .ok (.iastore, 1) := by decide +kernel
theorem dX11_copy_172 : decode cX11_copy 172 = .ok (.iinc 6 1, 3) := by decide +kernel
theorem dX11_copy_175 : decode cX11_copy 175 = .ok (.goto (-32), 3) := by decide +kernel
theorem dX11_copy_178 : decode cX11_copy 178 = .ok (.iconst 1, 1) := by decide +kernel
theorem dX11_copy_179 : decode cX11_copy 179 = .ok (.ireturn, 1) := by decide +kernel
theorem dX11_mean_0 : decode cX11_mean 0 = .ok (.aload_n 0, 1) := by decide +kernel
theorem dX11_mean_1 : decode cX11_mean 1 = .ok (.iload_n 1, 1) := by decide +kernel
theorem dX11_mean_2 : decode cX11_mean 2 = .ok (.invokevirtual 75, 3) := by decide +kernel
theorem dX11_mean_5 : decode cX11_mean 5 = .ok (.ifCond .ne 5, 3) := by decide +kernel
theorem dX11_mean_8 : decode cX11_mean 8 = .ok (.iconst (-1), 1) := by decide +kernel
theorem dX11_mean_9 : decode cX11_mean 9 = .ok (.ireturn, 1) := by decide +kernel
theorem dX11_mean_10 : decode cX11_mean 10 = .ok (.aload_n 0, 1) := by decide +kernel
theorem dX11_mean_11 : decode cX11_mean 11 = .ok (.getfield 7, 3) := by decide +kernel
theorem dX11_mean_14 : decode cX11_mean 14 = .ok (.iload_n 1, 1) := by decide +kernel
theorem dX11_mean_15 : decode cX11_mean 15 = .ok (.iaload, 1) := by decide +kernel
theorem dX11_mean_16 : decode cX11_mean 16 = .ok (.ifCond .ge 9, 3) := by decide +kernel
theorem dX11_mean_19 : decode cX11_mean 19 = .ok (.aload_n 0, 1) := by decide +kernel
theorem dX11_mean_20 : decode cX11_mean 20 = .ok (.iconst 1, 1) := by decide +kernel
theorem dX11_mean_21 : decode cX11_mean 21 = .ok (.invokevirtual 79, 3) := by decide +kernel
theorem dX11_mean_24 : decode cX11_mean 24 = .ok (.ireturn, 1) := by decide +kernel
theorem dX11_mean_25 : decode cX11_mean 25 = .ok (.aload_n 0, 1) := by decide +kernel
theorem dX11_mean_26 : decode cX11_mean 26 = .ok (.getfield 7, 3) := by decide +kernel
theorem dX11_mean_29 : decode cX11_mean 29 = .ok (.iload_n 1, 1) := by decide +kernel
theorem dX11_mean_30 : decode cX11_mean 30 = .ok (.iaload, 1) := by decide +kernel
theorem dX11_mean_31 : decode cX11_mean 31 = .ok (.ifCond .ne 9, 3) := by decide +kernel
theorem dX11_mean_34 : decode cX11_mean 34 = .ok (.aload_n 0, 1) := by decide +kernel
theorem dX11_mean_35 : decode cX11_mean 35 = .ok (.iconst 4, 1) := by decide +kernel
theorem dX11_mean_36 : decode cX11_mean 36 = .ok (.invokevirtual 79, 3) := by decide +kernel
theorem dX11_mean_39 : decode cX11_mean 39 = .ok (.ireturn, 1) := by decide +kernel
theorem dX11_mean_40 : decode cX11_mean 40 = .ok (.lconst 0, 1) := by decide +kernel
theorem dX11_mean_41 : decode cX11_mean 41 = .ok (.lstore_n 2, 1) := by decide +kernel
theorem dX11_mean_42 : decode cX11_mean 42 = .ok (.iconst 0, 1) := by decide +kernel
theorem dX11_mean_43 : decode cX11_mean 43 = .ok (.istore 4, 2) := by decide +kernel
theorem dX11_mean_45 : decode cX11_mean 45 = .ok (.iload 4, 2) := by decide +kernel
theorem dX11_mean_47 : decode cX11_mean 47 = .ok (.aload_n 0, 1) := by decide +kernel
theorem dX11_mean_48 : decode cX11_mean 48 = .ok (.getfield 7, 3) := by decide +kernel
theorem dX11_mean_51 : decode cX11_mean 51 = .ok (.iload_n 1, 1) := by decide +kernel
theorem dX11_mean_52 : decode cX11_mean 52 = .ok (.iaload, 1) := by decide +kernel
theorem dX11_mean_53 : decode cX11_mean 53 = .ok (.if_icmp .ge 25, 3) := by decide +kernel
theorem dX11_mean_56 : decode cX11_mean 56 = .ok (.lload_n 2, 1) := by decide +kernel
theorem dX11_mean_57 : decode cX11_mean 57 = .ok (.aload_n 0, 1) := by decide +kernel
theorem dX11_mean_58 : decode cX11_mean 58 = .ok (.getfield 13, 3) := by decide +kernel
theorem dX11_mean_61 : decode cX11_mean 61 = .ok (.bipush 40, 2) := by decide +kernel
theorem dX11_mean_63 : decode cX11_mean 63 = .ok (.iload_n 1, 1) := by decide +kernel
theorem dX11_mean_64 : decode cX11_mean 64 = .ok (.imul, 1) := by decide +kernel
theorem dX11_mean_65 : decode cX11_mean 65 = .ok (.iload 4, 2) := by decide +kernel
theorem dX11_mean_67 : decode cX11_mean 67 = .ok (.iadd, 1) := by decide +kernel
theorem dX11_mean_68 : decode cX11_mean 68 = .ok (.iaload, 1) := by decide +kernel
theorem dX11_mean_69 : decode cX11_mean 69 = .ok (.i2l, 1) := by decide +kernel
theorem dX11_mean_70 : decode cX11_mean 70 = .ok (.ladd, 1) := by decide +kernel
theorem dX11_mean_71 : decode cX11_mean 71 = .ok (.lstore_n 2, 1) := by decide +kernel
theorem dX11_mean_72 : decode cX11_mean 72 = .ok (.iinc 4 1, 3) := by decide +kernel
theorem dX11_mean_75 : decode cX11_mean 75 = .ok (.goto (-30), 3) := by decide +kernel
theorem dX11_mean_78 : decode cX11_mean 78 = .ok (.aload_n 0, 1) := by decide +kernel
theorem dX11_mean_79 : decode cX11_mean 79 = .ok (.lload_n 2, 1) := by decide +kernel
theorem dX11_mean_80 : decode cX11_mean 80 = .ok (.aload_n 0, 1) := by decide +kernel
theorem dX11_mean_81 : decode cX11_mean 81 = .ok (.getfield 7, 3) := by decide +kernel
theorem dX11_mean_84 : decode cX11_mean 84 = .ok (.iload_n 1, 1) := by decide +kernel
theorem dX11_mean_85 : decode cX11_mean 85 = .ok (.iaload, 1) := by decide +kernel
theorem dX11_mean_86 : decode cX11_mean 86 = .ok (.i2l, 1) := by decide +kernel
theorem dX11_mean_87 : decode cX11_mean 87 = .ok (.ldiv, 1) := by decide +kernel
theorem dX11_mean_88 : decode cX11_mean 88 = .ok (.l2i, 1) := by decide +kernel
theorem dX11_mean_89 : decode cX11_mean 89 = .ok (.invokevirtual 87, 3) := by decide +kernel
theorem dX11_mean_92 : decode cX11_mean 92 = .ok (.ireturn, 1) := by decide +kernel
theorem dX11_text_0 : decode cX11_text 0 = .ok (.aload_n 0, 1) := by decide +kernel
theorem dX11_text_1 : decode cX11_text 1 = .ok (.iload_n 1, 1) := by decide +kernel
theorem dX11_text_2 : decode cX11_text 2 = .ok (.invokevirtual 90, 3) := by decide +kernel
theorem dX11_text_5 : decode cX11_text 5 = .ok (.ifCond .eq 9, 3) := by decide +kernel
theorem dX11_text_8 : decode cX11_text 8 = .ok (.iload_n 2, 1) := by decide +kernel
theorem dX11_text_9 : decode cX11_text 9 = .ok (.bipush 60, 2) := by decide +kernel
theorem dX11_text_11 : decode cX11_text 11 = .ok (.if_icmp .le 5, 3) := by decide +kernel
theorem dX11_text_14 : decode cX11_text 14 = .ok (.iconst (-1), 1) := by decide +kernel
theorem dX11_text_15 : decode cX11_text 15 = .ok (.ireturn, 1) := by decide +kernel
theorem dX11_text_16 : decode cX11_text 16 = .ok (.iload_n 2, 1) := by decide +kernel
theorem dX11_text_17 : decode cX11_text 17 = .ok (.ifCond .ge 9, 3) := by decide +kernel
theorem dX11_text_20 : decode cX11_text 20 = .ok (.aload_n 0, 1) := by decide +kernel
theorem dX11_text_21 : decode cX11_text 21 = .ok (.iconst 5, 1) := by decide +kernel
theorem dX11_text_22 : decode cX11_text 22 = .ok (.invokevirtual 79, 3) := by decide +kernel
theorem dX11_text_25 : decode cX11_text 25 = .ok (.ireturn, 1) := by decide +kernel
theorem dX11_text_26 : decode cX11_text 26 = .ok (.aload_n 0, 1) := by decide +kernel
theorem dX11_text_27 : decode cX11_text 27 = .ok (.getfield 19, 3) := by decide +kernel
theorem dX11_text_30 : decode cX11_text 30 = .ok (.iload_n 1, 1) := by decide +kernel
theorem dX11_text_31 : decode cX11_text 31 = .ok (.iload_n 2, 1) := by decide +kernel
theorem dX11_text_32 : decode cX11_text 32 = .ok (.iastore, 1) := by decide +kernel
theorem dX11_text_33 : decode cX11_text 33 = .ok (.iconst 0, 1) := by decide +kernel
theorem dX11_text_34 : decode cX11_text 34 = .ok (.istore_n 3, 1) := by decide +kernel
theorem dX11_text_35 : decode cX11_text 35 = .ok (.iload_n 3, 1) := by decide +kernel
theorem dX11_text_36 : decode cX11_text 36 = .ok (.iload_n 2, 1) := by decide +kernel
theorem dX11_text_37 : decode cX11_text 37 = .ok (.if_icmp .ge 22, 3) := by decide +kernel
theorem dX11_text_40 : decode cX11_text 40 = .ok (.aload_n 0, 1) := by decide +kernel
theorem dX11_text_41 : decode cX11_text 41 = .ok (.getfield 22, 3) := by decide +kernel
theorem dX11_text_44 : decode cX11_text 44 = .ok (.bipush 60, 2) := by decide +kernel
theorem dX11_text_46 : decode cX11_text 46 = .ok (.iload_n 1, 1) := by decide +kernel
theorem dX11_text_47 : decode cX11_text 47 = .ok (.imul, 1) := by decide +kernel
theorem dX11_text_48 : decode cX11_text 48 = .ok (.iload_n 3, 1) := by decide +kernel
theorem dX11_text_49 : decode cX11_text 49 = .ok (.iadd, 1) := by decide +kernel
theorem dX11_text_50 : decode cX11_text 50 = .ok (.bipush 32, 2) := by decide +kernel
theorem dX11_text_52 : decode cX11_text 52 = .ok (.bastore, 1) := by decide +kernel
theorem dX11_text_53 : decode cX11_text 53 = .ok (.iinc 3 1, 3) := by decide +kernel
theorem dX11_text_56 : decode cX11_text 56 = .ok (.goto (-21), 3) := by decide +kernel
theorem dX11_text_59 : decode cX11_text 59 = .ok (.iload_n 2, 1) := by decide +kernel
theorem dX11_text_60 : decode cX11_text 60 = .ok (.ireturn, 1) := by decide +kernel
theorem dX11_put_0 : decode cX11_put 0 = .ok (.aload_n 0, 1) := by decide +kernel
theorem dX11_put_1 : decode cX11_put 1 = .ok (.iload_n 1, 1) := by decide +kernel
theorem dX11_put_2 : decode cX11_put 2 = .ok (.invokevirtual 90, 3) := by decide +kernel
theorem dX11_put_5 : decode cX11_put 5 = .ok (.ifCond .ne 5, 3) := by decide +kernel
theorem dX11_put_8 : decode cX11_put 8 = .ok (.iconst (-1), 1) := by decide +kernel
theorem dX11_put_9 : decode cX11_put 9 = .ok (.ireturn, 1) := by decide +kernel
theorem dX11_put_10 : decode cX11_put 10 = .ok (.aload_n 0, 1) := by decide +kernel
theorem dX11_put_11 : decode cX11_put 11 = .ok (.getfield 19, 3) := by decide +kernel
theorem dX11_put_14 : decode cX11_put 14 = .ok (.iload_n 1, 1) := by decide +kernel
theorem dX11_put_15 : decode cX11_put 15 = .ok (.iaload, 1) := by decide +kernel
theorem dX11_put_16 : decode cX11_put 16 = .ok (.ifCond .ge 9, 3) := by decide +kernel
theorem dX11_put_19 : decode cX11_put 19 = .ok (.aload_n 0, 1) := by decide +kernel
theorem dX11_put_20 : decode cX11_put 20 = .ok (.iconst 1, 1) := by decide +kernel
theorem dX11_put_21 : decode cX11_put 21 = .ok (.invokevirtual 79, 3) := by decide +kernel
theorem dX11_put_24 : decode cX11_put 24 = .ok (.ireturn, 1) := by decide +kernel
theorem dX11_put_25 : decode cX11_put 25 = .ok (.iload_n 2, 1) := by decide +kernel
theorem dX11_put_26 : decode cX11_put 26 = .ok (.i2l, 1) := by decide +kernel
theorem dX11_put_27 : decode cX11_put 27 = .ok (.lconst 0, 1) := by decide +kernel
theorem dX11_put_28 : decode cX11_put 28 = .ok (.aload_n 0, 1) := by decide +kernel
theorem dX11_put_29 : decode cX11_put 29 = .ok (.getfield 19, 3) := by decide +kernel
theorem dX11_put_32 : decode cX11_put 32 = .ok (.iload_n 1, 1) := by decide +kernel
theorem dX11_put_33 : decode cX11_put 33 = .ok (.iaload, 1) := by decide +kernel
theorem dX11_put_34 : decode cX11_put 34 = .ok (.iconst 1, 1) := by decide +kernel
theorem dX11_put_35 : decode cX11_put 35 = .ok (.isub, 1) := by decide +kernel
theorem dX11_put_36 : decode cX11_put 36 = .ok (.i2l, 1) := by decide +kernel
theorem dX11_put_37 : decode cX11_put 37 = .ok (.invokestatic 69, 3) := by decide +kernel
theorem dX11_put_40 : decode cX11_put 40 = .ok (.ifCond .ne 9, 3) := by decide +kernel
theorem dX11_put_43 : decode cX11_put 43 = .ok (.aload_n 0, 1) := by decide +kernel
theorem dX11_put_44 : decode cX11_put 44 = .ok (.iconst 2, 1) := by decide +kernel
theorem dX11_put_45 : decode cX11_put 45 = .ok (.invokevirtual 79, 3) := by decide +kernel
theorem dX11_put_48 : decode cX11_put 48 = .ok (.ireturn, 1) := by decide +kernel
theorem dX11_put_49 : decode cX11_put 49 = .ok (.aload_n 0, 1) := by decide +kernel
theorem dX11_put_50 : decode cX11_put 50 = .ok (.getfield 22, 3) := by decide +kernel
theorem dX11_put_53 : decode cX11_put 53 = .ok (.bipush 60, 2) := by decide +kernel
theorem dX11_put_55 : decode cX11_put 55 = .ok (.iload_n 1, 1) := by decide +kernel
theorem dX11_put_56 : decode cX11_put 56 = .ok (.imul, 1) := by decide +kernel
theorem dX11_put_57 : decode cX11_put 57 = .ok (.iload_n 2, 1) := by decide +kernel
theorem dX11_put_58 : decode cX11_put 58 = .ok (.iadd, 1) := by decide +kernel
theorem dX11_put_59 : decode cX11_put 59 = .ok (.baload, 1) := by decide +kernel
theorem dX11_put_60 : decode cX11_put 60 = .ok (.istore 4, 2) := by decide +kernel
theorem dX11_put_62 : decode cX11_put 62 = .ok (.aload_n 0, 1) := by decide +kernel
theorem dX11_put_63 : decode cX11_put 63 = .ok (.getfield 22, 3) := by decide +kernel
theorem dX11_put_66 : decode cX11_put 66 = .ok (.bipush 60, 2) := by decide +kernel
theorem dX11_put_68 : decode cX11_put 68 = .ok (.iload_n 1, 1) := by decide +kernel
theorem dX11_put_69 : decode cX11_put 69 = .ok (.imul, 1) := by decide +kernel
theorem dX11_put_70 : decode cX11_put 70 = .ok (.iload_n 2, 1) := by decide +kernel
theorem dX11_put_71 : decode cX11_put 71 = .ok (.iadd, 1) := by decide +kernel
theorem dX11_put_72 : decode cX11_put 72 = .ok (.iload_n 3, 1) := by decide +kernel
theorem dX11_put_73 : decode cX11_put 73 = .ok (.i2b, 1) := by decide +kernel
theorem dX11_put_74 : decode cX11_put 74 = .ok (.bastore, 1) := by decide +kernel
theorem dX11_put_75 : decode cX11_put 75 = .ok (.iload 4, 2) := by decide +kernel
theorem dX11_put_77 : decode cX11_put 77 = .ok (.sipush 1000, 3) := by decide +kernel
theorem dX11_put_80 : decode cX11_put 80 = .ok (.iadd, 1) := by decide +kernel
theorem dX11_put_81 : decode cX11_put 81 = .ok (.ireturn, 1) := by decide +kernel
theorem dX11_kindOf_0 : decode cX11_kindOf 0 = .ok (.iload_n 0, 1) := by decide +kernel
theorem dX11_kindOf_1 : decode cX11_kindOf 1 = .ok (.bipush 112, 2) := by decide +kernel
theorem dX11_kindOf_3 : decode cX11_kindOf 3 = .ok (.if_icmp .ne 7, 3) := by decide +kernel
theorem dX11_kindOf_6 : decode cX11_kindOf 6 = .ok (.iconst 0, 1) := by decide +kernel
theorem dX11_kindOf_7 : decode cX11_kindOf 7 = .ok (.goto 54, 3) := by decide +kernel
theorem dX11_kindOf_10 : decode cX11_kindOf 10 = .ok (.iload_n 0, 1) := by decide +kernel
theorem dX11_kindOf_11 : decode cX11_kindOf 11 = .ok (.bipush 119, 2) := by decide +kernel
theorem dX11_kindOf_13 : decode cX11_kindOf 13 = .ok (.if_icmp .ne 7, 3) := by decide +kernel
theorem dX11_kindOf_16 : decode cX11_kindOf 16 = .ok (.iconst 1, 1) := by decide +kernel
theorem dX11_kindOf_17 : decode cX11_kindOf 17 = .ok (.goto 44, 3) := by decide +kernel
theorem dX11_kindOf_20 : decode cX11_kindOf 20 = .ok (.iload_n 0, 1) := by decide +kernel
theorem dX11_kindOf_21 : decode cX11_kindOf 21 = .ok (.bipush 100, 2) := by decide +kernel
theorem dX11_kindOf_23 : decode cX11_kindOf 23 = .ok (.if_icmp .ne 7, 3) := by decide +kernel
theorem dX11_kindOf_26 : decode cX11_kindOf 26 = .ok (.iconst 2, 1) := by decide +kernel
theorem dX11_kindOf_27 : decode cX11_kindOf 27 = .ok (.goto 34, 3) := by decide +kernel
theorem dX11_kindOf_30 : decode cX11_kindOf 30 = .ok (.iload_n 0, 1) := by decide +kernel
theorem dX11_kindOf_31 : decode cX11_kindOf 31 = .ok (.bipush 104, 2) := by decide +kernel
theorem dX11_kindOf_33 : decode cX11_kindOf 33 = .ok (.if_icmp .ne 7, 3) := by decide +kernel
theorem dX11_kindOf_36 : decode cX11_kindOf 36 = .ok (.iconst 3, 1) := by decide +kernel
theorem dX11_kindOf_37 : decode cX11_kindOf 37 = .ok (.goto 24, 3) := by decide +kernel
theorem dX11_kindOf_40 : decode cX11_kindOf 40 = .ok (.iload_n 0, 1) := by decide +kernel
theorem dX11_kindOf_41 : decode cX11_kindOf 41 = .ok (.bipush 108, 2) := by decide +kernel
theorem dX11_kindOf_43 : decode cX11_kindOf 43 = .ok (.if_icmp .ne 7, 3) := by decide +kernel
theorem dX11_kindOf_46 : decode cX11_kindOf 46 = .ok (.iconst 4, 1) := by decide +kernel
theorem dX11_kindOf_47 : decode cX11_kindOf 47 = .ok (.goto 14, 3) := by decide +kernel
theorem dX11_kindOf_50 : decode cX11_kindOf 50 = .ok (.iload_n 0, 1) := by decide +kernel
theorem dX11_kindOf_51 : decode cX11_kindOf 51 = .ok (.bipush 115, 2) := by decide +kernel
theorem dX11_kindOf_53 : decode cX11_kindOf 53 = .ok (.if_icmp .ne 7, 3) := by decide +kernel
theorem dX11_kindOf_56 : decode cX11_kindOf 56 = .ok (.iconst 5, 1) := by decide +kernel
theorem dX11_kindOf_57 : decode cX11_kindOf 57 = .ok (.goto 4, 3) := by decide +kernel
theorem dX11_kindOf_60 : decode cX11_kindOf 60 = .ok (.iconst (-1), 1) := by decide +kernel
theorem dX11_kindOf_61 : decode cX11_kindOf 61 = .ok (.ireturn, 1) := by decide +kernel
theorem dX11_isFigure_0 : decode cX11_isFigure 0 = .ok (.aload_n 0, 1) := by decide +kernel
theorem dX11_isFigure_1 : decode cX11_isFigure 1 = .ok (.getfield 22, 3) := by decide +kernel
theorem dX11_isFigure_4 : decode cX11_isFigure 4 = .ok (.bipush 60, 2) := by decide +kernel
theorem dX11_isFigure_6 : decode cX11_isFigure 6 = .ok (.iload_n 1, 1) := by decide +kernel
theorem dX11_isFigure_7 : decode cX11_isFigure 7 = .ok (.imul, 1) := by decide +kernel
theorem dX11_isFigure_8 : decode cX11_isFigure 8 = .ok (.iload_n 2, 1) := by decide +kernel
theorem dX11_isFigure_9 : decode cX11_isFigure 9 = .ok (.iadd, 1) := by decide +kernel
theorem dX11_isFigure_10 : decode cX11_isFigure 10 = .ok (.baload, 1) := by decide +kernel
theorem dX11_isFigure_11 : decode cX11_isFigure 11 = .ok (.i2l, 1) := by decide +kernel
theorem dX11_isFigure_12 : decode cX11_isFigure 12 = .ok (.ldc2_w 93, 3) := by decide +kernel
theorem dX11_isFigure_15 : decode cX11_isFigure 15 = .ok (.ldc2_w 95, 3) := by decide +kernel
theorem dX11_isFigure_18 : decode cX11_isFigure 18 = .ok (.invokestatic 69, 3) := by decide +kernel
theorem dX11_isFigure_21 : decode cX11_isFigure 21 = .ok (.ireturn, 1) := by decide +kernel
theorem dX11_isOn_0 : decode cX11_isOn 0 = .ok (.iconst 0, 1) := by decide +kernel
theorem dX11_isOn_1 : decode cX11_isOn 1 = .ok (.istore 4, 2) := by decide +kernel
theorem dX11_isOn_3 : decode cX11_isOn 3 = .ok (.iconst 0, 1) := by decide +kernel
theorem dX11_isOn_4 : decode cX11_isOn 4 = .ok (.istore 5, 2) := by decide +kernel
theorem dX11_isOn_6 : decode cX11_isOn 6 = .ok (.iload 5, 2) := by decide +kernel
theorem dX11_isOn_8 : decode cX11_isOn 8 = .ok (.iload_n 2, 1) := by decide +kernel
theorem dX11_isOn_9 : decode cX11_isOn 9 = .ok (.if_icmp .ge 37, 3) := by decide +kernel
theorem dX11_isOn_12 : decode cX11_isOn 12 = .ok (.iload 4, 2) := by decide +kernel
theorem dX11_isOn_14 : decode cX11_isOn 14 = .ok (.ifCond .ne 19, 3) := by decide +kernel
theorem dX11_isOn_17 : decode cX11_isOn 17 = .ok (.aload_n 0, 1) := by decide +kernel
theorem dX11_isOn_18 : decode cX11_isOn 18 = .ok (.getfield 35, 3) := by decide +kernel
theorem dX11_isOn_21 : decode cX11_isOn 21 = .ok (.bipush 6, 2) := by decide +kernel
theorem dX11_isOn_23 : decode cX11_isOn 23 = .ok (.iload_n 1, 1) := by decide +kernel
theorem dX11_isOn_24 : decode cX11_isOn 24 = .ok (.imul, 1) := by decide +kernel
theorem dX11_isOn_25 : decode cX11_isOn 25 = .ok (.iload 5, 2) := by decide +kernel
theorem dX11_isOn_27 : decode cX11_isOn 27 = .ok (.iadd, 1) := by decide +kernel
theorem dX11_isOn_28 : decode cX11_isOn 28 = .ok (.iaload, 1) := by decide +kernel
theorem dX11_isOn_29 : decode cX11_isOn 29 = .ok (.iload_n 3, 1) := by decide +kernel
theorem dX11_isOn_30 : decode cX11_isOn 30 = .ok (.if_icmp .ne 7, 3) := by decide +kernel
theorem dX11_isOn_33 : decode cX11_isOn 33 = .ok (.iconst 1, 1) := by decide +kernel
theorem dX11_isOn_34 : decode cX11_isOn 34 = .ok (.goto 4, 3) := by decide +kernel
theorem dX11_isOn_37 : decode cX11_isOn 37 = .ok (.iconst 0, 1) := by decide +kernel
theorem dX11_isOn_38 : decode cX11_isOn 38 = .ok (.istore 4, 2) := by decide +kernel
theorem dX11_isOn_40 : decode cX11_isOn 40 = .ok (.iinc 5 1, 3) := by decide +kernel
theorem dX11_isOn_43 : decode cX11_isOn 43 = .ok (.goto (-37), 3) := by decide +kernel
theorem dX11_isOn_46 : decode cX11_isOn 46 = .ok (.iload 4, 2) := by decide +kernel
theorem dX11_isOn_48 : decode cX11_isOn 48 = .ok (.ireturn, 1) := by decide +kernel
theorem dX11_numbers_0 : decode cX11_numbers 0 = .ok (.iconst 0, 1) := by decide +kernel
theorem dX11_numbers_1 : decode cX11_numbers 1 = .ok (.istore 4, 2) := by decide +kernel
theorem dX11_numbers_3 : decode cX11_numbers 3 = .ok (.iload 4, 2) := by decide +kernel
theorem dX11_numbers_5 : decode cX11_numbers 5 = .ok (.bipush 6, 2) := by decide +kernel
theorem dX11_numbers_7 : decode cX11_numbers 7 = .ok (.if_icmp .ge 154, 3) := by decide +kernel
theorem dX11_numbers_10 : decode cX11_numbers 10 = .ok (.iload_n 3, 1) := by decide +kernel
theorem dX11_numbers_11 : decode cX11_numbers 11 = .ok (.iconst 2, 1) := by decide +kernel
theorem dX11_numbers_12 : decode cX11_numbers 12 = .ok (.iload 4, 2) := by decide +kernel
theorem dX11_numbers_14 : decode cX11_numbers 14 = .ok (.imul, 1) := by decide +kernel
theorem dX11_numbers_15 : decode cX11_numbers 15 = .ok (.iadd, 1) := by decide +kernel
theorem dX11_numbers_16 : decode cX11_numbers 16 = .ok (.istore 5, 2) := by decide +kernel
theorem dX11_numbers_18 : decode cX11_numbers 18 = .ok (.iconst 0, 1) := by decide +kernel
theorem dX11_numbers_19 : decode cX11_numbers 19 = .ok (.istore 6, 2) := by decide +kernel
theorem dX11_numbers_21 : decode cX11_numbers 21 = .ok (.iload 6, 2) := by decide +kernel
theorem dX11_numbers_23 : decode cX11_numbers 23 = .ok (.iconst 2, 1) := by decide +kernel
theorem dX11_numbers_24 : decode cX11_numbers 24 = .ok (.if_icmp .ge 51, 3) := by decide +kernel
theorem dX11_numbers_27 : decode cX11_numbers 27 = .ok (.iload 5, 2) := by decide +kernel
theorem dX11_numbers_29 : decode cX11_numbers 29 = .ok (.iload 6, 2) := by decide +kernel
theorem dX11_numbers_31 : decode cX11_numbers 31 = .ok (.iadd, 1) := by decide +kernel
theorem dX11_numbers_32 : decode cX11_numbers 32 = .ok (.aload_n 0, 1) := by decide +kernel
theorem dX11_numbers_33 : decode cX11_numbers 33 = .ok (.getfield 19, 3) := by decide +kernel
theorem dX11_numbers_36 : decode cX11_numbers 36 = .ok (.iload_n 1, 1) := by decide +kernel
theorem dX11_numbers_37 : decode cX11_numbers 37 = .ok (.iaload, 1) := by decide +kernel
theorem dX11_numbers_38 : decode cX11_numbers 38 = .ok (.if_icmp .ge 16, 3) := by decide +kernel
theorem dX11_numbers_41 : decode cX11_numbers 41 = .ok (.aload_n 0, 1) := by decide +kernel
theorem dX11_numbers_42 : decode cX11_numbers 42 = .ok (.iload_n 1, 1) := by decide +kernel
theorem dX11_numbers_43 : decode cX11_numbers 43 = .ok (.iload 5, 2) := by decide +kernel
theorem dX11_numbers_45 : decode cX11_numbers 45 = .ok (.iload 6, 2) := by decide +kernel
theorem dX11_numbers_47 : decode cX11_numbers 47 = .ok (.iadd, 1) := by decide +kernel
theorem dX11_numbers_48 : decode cX11_numbers 48 = .ok (.invokevirtual 97, 3) := by decide +kernel
theorem dX11_numbers_51 : decode cX11_numbers 51 = .ok (.ifCond .ne 18, 3) := by decide +kernel
theorem dX11_numbers_54 : decode cX11_numbers 54 = .ok (.iload 5, 2) := by decide +kernel
theorem dX11_numbers_56 : decode cX11_numbers 56 = .ok (.iload 6, 2) := by decide +kernel
theorem dX11_numbers_58 : decode cX11_numbers 58 = .ok (.iadd, 1) := by decide +kernel
theorem dX11_numbers_59 : decode cX11_numbers 59 = .ok (.aload_n 0, 1) := by decide +kernel
theorem dX11_numbers_60 : decode cX11_numbers 60 = .ok (.getfield 19, 3) := by decide +kernel
theorem dX11_numbers_63 : decode cX11_numbers 63 = .ok (.iload_n 1, 1) := by decide +kernel
theorem dX11_numbers_64 : decode cX11_numbers 64 = .ok (.iaload, 1) := by decide +kernel
theorem dX11_numbers_65 : decode cX11_numbers 65 = .ok (.invokestatic 101, 3) := by decide +kernel
theorem dX11_numbers_68 : decode cX11_numbers 68 = .ok (.ireturn, 1) := by decide +kernel
theorem dX11_numbers_69 : decode cX11_numbers 69 = .ok (.iinc 6 1, 3) := by decide +kernel
theorem dX11_numbers_72 : decode cX11_numbers 72 = .ok (.goto (-51), 3) := by decide +kernel
theorem dX11_numbers_75 : decode cX11_numbers 75 = .ok (.bipush 10, 2) := by decide +kernel
theorem dX11_numbers_77 : decode cX11_numbers 77 = .ok (.aload_n 0, 1) := by decide +kernel
theorem dX11_numbers_78 : decode cX11_numbers 78 = .ok (.getfield 22, 3) := by decide +kernel
theorem dX11_numbers_81 : decode cX11_numbers 81 = .ok (.bipush 60, 2) := by decide +kernel
theorem dX11_numbers_83 : decode cX11_numbers 83 = .ok (.iload_n 1, 1) := by decide +kernel
theorem dX11_numbers_84 : decode cX11_numbers 84 = .ok (.imul, 1) := by decide +kernel
theorem dX11_numbers_85 : decode cX11_numbers 85 = .ok (.iload 5, 2) := by decide +kernel
theorem dX11_numbers_87 : decode cX11_numbers 87 = .ok (.iadd, 1) := by decide +kernel
theorem dX11_numbers_88 : decode cX11_numbers 88 = .ok (.baload, 1) := by decide +kernel
theorem dX11_numbers_89 : decode cX11_numbers 89 = .ok (.bipush 48, 2) := by decide +kernel
theorem dX11_numbers_91 : decode cX11_numbers 91 = .ok (.isub, 1) := by decide +kernel
theorem dX11_numbers_92 : decode cX11_numbers 92 = .ok (.imul, 1) := by decide +kernel
theorem dX11_numbers_93 : decode cX11_numbers 93 = .ok (.aload_n 0, 1) := by decide +kernel
theorem dX11_numbers_94 : decode cX11_numbers 94 = .ok (.getfield 22, 3) := by decide +kernel
theorem dX11_numbers_97 : decode cX11_numbers 97 = .ok (.bipush 60, 2) := by decide +kernel
theorem dX11_numbers_99 : decode cX11_numbers 99 = .ok (.iload_n 1, 1) := by decide +kernel
theorem dX11_numbers_100 : decode cX11_numbers 100 = .ok (.imul, 1) := by decide +kernel
theorem dX11_numbers_101 : decode cX11_numbers 101 = .ok (.iload 5, 2) := by decide +kernel
theorem dX11_numbers_103 : decode cX11_numbers 103 = .ok (.iadd, 1) := by decide +kernel
theorem dX11_numbers_104 : decode cX11_numbers 104 = .ok (.iconst 1, 1) := by decide +kernel
theorem dX11_numbers_105 : decode cX11_numbers 105 = .ok (.iadd, 1) := by decide +kernel
theorem dX11_numbers_106 : decode cX11_numbers 106 = .ok (.baload, 1) := by decide +kernel
theorem dX11_numbers_107 : decode cX11_numbers 107 = .ok (.iadd, 1) := by decide +kernel
theorem dX11_numbers_108 : decode cX11_numbers 108 = .ok (.bipush 48, 2) := by decide +kernel
theorem dX11_numbers_110 : decode cX11_numbers 110 = .ok (.isub, 1) := by decide +kernel
theorem dX11_numbers_111 : decode cX11_numbers 111 = .ok (.istore 6, 2) := by decide +kernel
theorem dX11_numbers_113 : decode cX11_numbers 113 = .ok (.iload 6, 2) := by decide +kernel
theorem dX11_numbers_115 : decode cX11_numbers 115 = .ok (.i2l, 1) := by decide +kernel
theorem dX11_numbers_116 : decode cX11_numbers 116 = .ok (.lconst 1, 1) := by decide +kernel
theorem dX11_numbers_117 : decode cX11_numbers 117 = .ok (.ldc2_w 105, 3) := by decide +kernel
theorem dX11_numbers_120 : decode cX11_numbers 120 = .ok (.invokestatic 69, 3) := by decide +kernel
theorem dX11_numbers_123 : decode cX11_numbers 123 = .ok (.ifCond .eq 15, 3) := by decide +kernel
theorem dX11_numbers_126 : decode cX11_numbers 126 = .ok (.aload_n 0, 1) := by decide +kernel
theorem dX11_numbers_127 : decode cX11_numbers 127 = .ok (.iload_n 2, 1) := by decide +kernel
theorem dX11_numbers_128 : decode cX11_numbers 128 = .ok (.iload 4, 2) := by decide +kernel
theorem dX11_numbers_130 : decode cX11_numbers 130 = .ok (.iload 6, 2) := by decide +kernel
theorem dX11_numbers_132 : decode cX11_numbers 132 = .ok (.invokevirtual 107, 3) := by decide +kernel
theorem dX11_numbers_135 : decode cX11_numbers 135 = .ok (.ifCond .eq 6, 3) := by decide +kernel
theorem dX11_numbers_138 : decode cX11_numbers 138 = .ok (.iload 5, 2) := by decide +kernel
theorem dX11_numbers_140 : decode cX11_numbers 140 = .ok (.ireturn, 1) := by decide +kernel
theorem dX11_numbers_141 : decode cX11_numbers 141 = .ok (.aload_n 0, 1) := by decide +kernel
theorem dX11_numbers_142 : decode cX11_numbers 142 = .ok (.getfield 35, 3) := by decide +kernel
theorem dX11_numbers_145 : decode cX11_numbers 145 = .ok (.bipush 6, 2) := by decide +kernel
theorem dX11_numbers_147 : decode cX11_numbers 147 = .ok (.iload_n 2, 1) := by decide +kernel
theorem dX11_numbers_148 : decode cX11_numbers 148 = .ok (.imul, 1) := by decide +kernel
theorem dX11_numbers_149 : decode cX11_numbers 149 = .ok (.iload 4, 2) := by decide +kernel
theorem dX11_numbers_151 : decode cX11_numbers 151 = .ok (.iadd, 1) := by decide +kernel
theorem dX11_numbers_152 : decode cX11_numbers 152 = .ok (.iload 6, 2) := by decide +kernel
theorem dX11_numbers_154 : decode cX11_numbers 154 = .ok (.iastore, 1) := by decide +kernel
theorem dX11_numbers_155 : decode cX11_numbers 155 = .ok (.iinc 4 1, 3) := by decide +kernel
theorem dX11_numbers_158 : decode cX11_numbers 158 = .ok (.goto (-155), 3) := by decide +kernel
theorem dX11_numbers_161 : decode cX11_numbers 161 = .ok (.bipush (-9), 2) := by decide +kernel
theorem dX11_numbers_163 : decode cX11_numbers 163 = .ok (.ireturn, 1) := by decide +kernel
theorem dX11_faultOf_0 : decode cX11_faultOf 0 = .ok (.aload_n 0, 1) := by decide +kernel
theorem dX11_faultOf_1 : decode cX11_faultOf 1 = .ok (.iconst 0, 1) := by decide +kernel
theorem dX11_faultOf_2 : decode cX11_faultOf 2 = .ok (.putfield 111, 3) := by decide +kernel
theorem dX11_faultOf_5 : decode cX11_faultOf 5 = .ok (.iconst 0, 1) := by decide +kernel
theorem dX11_faultOf_6 : decode cX11_faultOf 6 = .ok (.istore_n 2, 1) := by decide +kernel
theorem dX11_faultOf_7 : decode cX11_faultOf 7 = .ok (.iload_n 2, 1) := by decide +kernel
theorem dX11_faultOf_8 : decode cX11_faultOf 8 = .ok (.aload_n 0, 1) := by decide +kernel
theorem dX11_faultOf_9 : decode cX11_faultOf 9 = .ok (.getfield 19, 3) := by decide +kernel
theorem dX11_faultOf_12 : decode cX11_faultOf 12 = .ok (.iload_n 1, 1) := by decide +kernel
theorem dX11_faultOf_13 : decode cX11_faultOf 13 = .ok (.iaload, 1) := by decide +kernel
theorem dX11_faultOf_14 : decode cX11_faultOf 14 = .ok (.if_icmp .ge 104, 3) := by decide +kernel
theorem dX11_faultOf_17 : decode cX11_faultOf 17 = .ok (.aload_n 0, 1) := by decide +kernel
theorem dX11_faultOf_18 : decode cX11_faultOf 18 = .ok (.getfield 22, 3) := by decide +kernel
theorem dX11_faultOf_21 : decode cX11_faultOf 21 = .ok (.bipush 60, 2) := by decide +kernel
theorem dX11_faultOf_23 : decode cX11_faultOf 23 = .ok (.iload_n 1, 1) := by decide +kernel
theorem dX11_faultOf_24 : decode cX11_faultOf 24 = .ok (.imul, 1) := by decide +kernel
theorem dX11_faultOf_25 : decode cX11_faultOf 25 = .ok (.iload_n 2, 1) := by decide +kernel
theorem dX11_faultOf_26 : decode cX11_faultOf 26 = .ok (.iadd, 1) := by decide +kernel
theorem dX11_faultOf_27 : decode cX11_faultOf 27 = .ok (.baload, 1) := by decide +kernel
theorem dX11_faultOf_28 : decode cX11_faultOf 28 = .ok (.bipush 32, 2) := by decide +kernel
theorem dX11_faultOf_30 : decode cX11_faultOf 30 = .ok (.if_icmp .ne 9, 3) := by decide +kernel
theorem dX11_faultOf_33 : decode cX11_faultOf 33 = .ok (.iinc 2 1, 3) := by decide +kernel
theorem dX11_faultOf_36 : decode cX11_faultOf 36 = .ok (.goto (-29), 3) := by decide +kernel
theorem dX11_faultOf_39 : decode cX11_faultOf 39 = .ok (.aload_n 0, 1) := by decide +kernel
theorem dX11_faultOf_40 : decode cX11_faultOf 40 = .ok (.getfield 22, 3) := by decide +kernel
theorem dX11_faultOf_43 : decode cX11_faultOf 43 = .ok (.bipush 60, 2) := by decide +kernel
theorem dX11_faultOf_45 : decode cX11_faultOf 45 = .ok (.iload_n 1, 1) := by decide +kernel
theorem dX11_faultOf_46 : decode cX11_faultOf 46 = .ok (.imul, 1) := by decide +kernel
theorem dX11_faultOf_47 : decode cX11_faultOf 47 = .ok (.iload_n 2, 1) := by decide +kernel
theorem dX11_faultOf_48 : decode cX11_faultOf 48 = .ok (.iadd, 1) := by decide +kernel
theorem dX11_faultOf_49 : decode cX11_faultOf 49 = .ok (.baload, 1) := by decide +kernel
theorem dX11_faultOf_50 : decode cX11_faultOf 50 = .ok (.invokestatic 114, 3) := by decide +kernel
theorem dX11_faultOf_53 : decode cX11_faultOf 53 = .ok (.istore_n 3, 1) := by decide +kernel
theorem dX11_faultOf_54 : decode cX11_faultOf 54 = .ok (.iload_n 3, 1) := by decide +kernel
theorem dX11_faultOf_55 : decode cX11_faultOf 55 = .ok (.ifCond .lt 11, 3) := by decide +kernel
theorem dX11_faultOf_58 : decode cX11_faultOf 58 = .ok (.aload_n 0, 1) := by decide +kernel
theorem dX11_faultOf_59 : decode cX11_faultOf 59 = .ok (.getfield 111, 3) := by decide +kernel
theorem dX11_faultOf_62 : decode cX11_faultOf 62 = .ok (.iconst 4, 1) := by decide +kernel
theorem dX11_faultOf_63 : decode cX11_faultOf 63 = .ok (.if_icmp .ne 5, 3) := by decide +kernel
theorem dX11_faultOf_66 : decode cX11_faultOf 66 = .ok (.iload_n 2, 1) := by decide +kernel
theorem dX11_faultOf_67 : decode cX11_faultOf 67 = .ok (.ireturn, 1) := by decide +kernel
theorem dX11_faultOf_68 : decode cX11_faultOf 68 = .ok (.aload_n 0, 1) := by decide +kernel
theorem dX11_faultOf_69 : decode cX11_faultOf 69 = .ok (.iload_n 1, 1) := by decide +kernel
theorem dX11_faultOf_70 : decode cX11_faultOf 70 = .ok (.aload_n 0, 1) := by decide +kernel
theorem dX11_faultOf_71 : decode cX11_faultOf 71 = .ok (.getfield 111, 3) := by decide +kernel
theorem dX11_faultOf_74 : decode cX11_faultOf 74 = .ok (.iload_n 2, 1) := by decide +kernel
theorem dX11_faultOf_75 : decode cX11_faultOf 75 = .ok (.iconst 1, 1) := by decide +kernel
theorem dX11_faultOf_76 : decode cX11_faultOf 76 = .ok (.iadd, 1) := by decide +kernel
theorem dX11_faultOf_77 : decode cX11_faultOf 77 = .ok (.invokevirtual 117, 3) := by decide +kernel
theorem dX11_faultOf_80 : decode cX11_faultOf 80 = .ok (.istore 4, 2) := by decide +kernel
theorem dX11_faultOf_82 : decode cX11_faultOf 82 = .ok (.iload 4, 2) := by decide +kernel
theorem dX11_faultOf_84 : decode cX11_faultOf 84 = .ok (.bipush (-9), 2) := by decide +kernel
theorem dX11_faultOf_86 : decode cX11_faultOf 86 = .ok (.if_icmp .eq 6, 3) := by decide +kernel
theorem dX11_faultOf_89 : decode cX11_faultOf 89 = .ok (.iload 4, 2) := by decide +kernel
theorem dX11_faultOf_91 : decode cX11_faultOf 91 = .ok (.ireturn, 1) := by decide +kernel
theorem dX11_faultOf_92 : decode cX11_faultOf 92 = .ok (.aload_n 0, 1) := by decide +kernel
theorem dX11_faultOf_93 : decode cX11_faultOf 93 = .ok (.getfield 32, 3) := by decide +kernel
theorem dX11_faultOf_96 : decode cX11_faultOf 96 = .ok (.aload_n 0, 1) := by decide +kernel
theorem dX11_faultOf_97 : decode cX11_faultOf 97 = .ok (.getfield 111, 3) := by decide +kernel
theorem dX11_faultOf_100 : decode cX11_faultOf 100 = .ok (.iload_n 3, 1) := by decide +kernel
theorem dX11_faultOf_101 : decode cX11_faultOf 101 = .ok (.iastore, 1) := by decide +kernel
theorem dX11_faultOf_102 : decode cX11_faultOf 102 = .ok (.aload_n 0, 1) := by decide +kernel
theorem dX11_faultOf_103 : decode cX11_faultOf 103 = .ok (.dup, 1) := by decide +kernel
theorem dX11_faultOf_104 : decode cX11_faultOf 104 = .ok (.getfield 111, 3) := by decide +kernel
theorem dX11_faultOf_107 : decode cX11_faultOf 107 = .ok (.iconst 1, 1) := by decide +kernel
theorem dX11_faultOf_108 : decode cX11_faultOf 108 = .ok (.iadd, 1) := by decide +kernel
theorem dX11_faultOf_109 : decode cX11_faultOf 109 = .ok (.putfield 111, 3) := by decide +kernel
theorem dX11_faultOf_112 : decode cX11_faultOf 112 = .ok (.iinc 2 13, 3) := by decide +kernel
theorem dX11_faultOf_115 : decode cX11_faultOf 115 = .ok (.goto (-108), 3) := by decide +kernel
theorem dX11_faultOf_118 : decode cX11_faultOf 118 = .ok (.aload_n 0, 1) := by decide +kernel
theorem dX11_faultOf_119 : decode cX11_faultOf 119 = .ok (.getfield 111, 3) := by decide +kernel
theorem dX11_faultOf_122 : decode cX11_faultOf 122 = .ok (.ifCond .ne 12, 3) := by decide +kernel
theorem dX11_faultOf_125 : decode cX11_faultOf 125 = .ok (.aload_n 0, 1) := by decide +kernel
theorem dX11_faultOf_126 : decode cX11_faultOf 126 = .ok (.getfield 19, 3) := by decide +kernel
theorem dX11_faultOf_129 : decode cX11_faultOf 129 = .ok (.iload_n 1, 1) := by decide +kernel
theorem dX11_faultOf_130 : decode cX11_faultOf 130 = .ok (.iaload, 1) := by decide +kernel
theorem dX11_faultOf_131 : decode cX11_faultOf 131 = .ok (.goto 5, 3) := by decide +kernel
theorem dX11_faultOf_134 : decode cX11_faultOf 134 = .ok (.bipush (-9), 2) := by decide +kernel
theorem dX11_faultOf_136 : decode cX11_faultOf 136 = .ok (.ireturn, 1) := by decide +kernel
theorem dX11_fault_0 : decode cX11_fault 0 = .ok (.aload_n 0, 1) := by decide +kernel
theorem dX11_fault_1 : decode cX11_fault 1 = .ok (.iload_n 1, 1) := by decide +kernel
theorem dX11_fault_2 : decode cX11_fault 2 = .ok (.invokevirtual 90, 3) := by decide +kernel
theorem dX11_fault_5 : decode cX11_fault 5 = .ok (.ifCond .ne 5, 3) := by decide +kernel
theorem dX11_fault_8 : decode cX11_fault 8 = .ok (.iconst (-1), 1) := by decide +kernel
theorem dX11_fault_9 : decode cX11_fault 9 = .ok (.ireturn, 1) := by decide +kernel
theorem dX11_fault_10 : decode cX11_fault 10 = .ok (.aload_n 0, 1) := by decide +kernel
theorem dX11_fault_11 : decode cX11_fault 11 = .ok (.getfield 19, 3) := by decide +kernel
theorem dX11_fault_14 : decode cX11_fault 14 = .ok (.iload_n 1, 1) := by decide +kernel
theorem dX11_fault_15 : decode cX11_fault 15 = .ok (.iaload, 1) := by decide +kernel
theorem dX11_fault_16 : decode cX11_fault 16 = .ok (.ifCond .ge 11, 3) := by decide +kernel
theorem dX11_fault_19 : decode cX11_fault 19 = .ok (.aload_n 0, 1) := by decide +kernel
theorem dX11_fault_20 : decode cX11_fault 20 = .ok (.iconst 1, 1) := by decide +kernel
theorem dX11_fault_21 : decode cX11_fault 21 = .ok (.invokevirtual 79, 3) := by decide +kernel
theorem dX11_fault_24 : decode cX11_fault 24 = .ok (.goto 8, 3) := by decide +kernel
theorem dX11_fault_27 : decode cX11_fault 27 = .ok (.aload_n 0, 1) := by decide +kernel
theorem dX11_fault_28 : decode cX11_fault 28 = .ok (.iload_n 1, 1) := by decide +kernel
theorem dX11_fault_29 : decode cX11_fault 29 = .ok (.invokevirtual 121, 3) := by decide +kernel
theorem dX11_fault_32 : decode cX11_fault 32 = .ok (.ireturn, 1) := by decide +kernel
theorem dX11_hall_0 : decode cX11_hall 0 = .ok (.aload_n 0, 1) := by decide +kernel
theorem dX11_hall_1 : decode cX11_hall 1 = .ok (.iload_n 1, 1) := by decide +kernel
theorem dX11_hall_2 : decode cX11_hall 2 = .ok (.invokevirtual 90, 3) := by decide +kernel
theorem dX11_hall_5 : decode cX11_hall 5 = .ok (.ifCond .ne 5, 3) := by decide +kernel
theorem dX11_hall_8 : decode cX11_hall 8 = .ok (.iconst (-1), 1) := by decide +kernel
theorem dX11_hall_9 : decode cX11_hall 9 = .ok (.ireturn, 1) := by decide +kernel
theorem dX11_hall_10 : decode cX11_hall 10 = .ok (.aload_n 0, 1) := by decide +kernel
theorem dX11_hall_11 : decode cX11_hall 11 = .ok (.getfield 19, 3) := by decide +kernel
theorem dX11_hall_14 : decode cX11_hall 14 = .ok (.iload_n 1, 1) := by decide +kernel
theorem dX11_hall_15 : decode cX11_hall 15 = .ok (.iaload, 1) := by decide +kernel
theorem dX11_hall_16 : decode cX11_hall 16 = .ok (.ifCond .ge 9, 3) := by decide +kernel
theorem dX11_hall_19 : decode cX11_hall 19 = .ok (.aload_n 0, 1) := by decide +kernel
theorem dX11_hall_20 : decode cX11_hall 20 = .ok (.iconst 1, 1) := by decide +kernel
theorem dX11_hall_21 : decode cX11_hall 21 = .ok (.invokevirtual 79, 3) := by decide +kernel
theorem dX11_hall_24 : decode cX11_hall 24 = .ok (.ireturn, 1) := by decide +kernel
theorem dX11_hall_25 : decode cX11_hall 25 = .ok (.aload_n 0, 1) := by decide +kernel
theorem dX11_hall_26 : decode cX11_hall 26 = .ok (.iload_n 1, 1) := by decide +kernel
theorem dX11_hall_27 : decode cX11_hall 27 = .ok (.invokevirtual 121, 3) := by decide +kernel
theorem dX11_hall_30 : decode cX11_hall 30 = .ok (.bipush (-9), 2) := by decide +kernel
theorem dX11_hall_32 : decode cX11_hall 32 = .ok (.if_icmp .eq 6, 3) := by decide +kernel
theorem dX11_hall_35 : decode cX11_hall 35 = .ok (.bipush (-4), 2) := by decide +kernel
theorem dX11_hall_37 : decode cX11_hall 37 = .ok (.ireturn, 1) := by decide +kernel
theorem dX11_hall_38 : decode cX11_hall 38 = .ok (.aload_n 0, 1) := by decide +kernel
theorem dX11_hall_39 : decode cX11_hall 39 = .ok (.aload_n 0, 1) := by decide +kernel
theorem dX11_hall_40 : decode cX11_hall 40 = .ok (.getfield 111, 3) := by decide +kernel
theorem dX11_hall_43 : decode cX11_hall 43 = .ok (.putfield 124, 3) := by decide +kernel
theorem dX11_hall_46 : decode cX11_hall 46 = .ok (.iconst 0, 1) := by decide +kernel
theorem dX11_hall_47 : decode cX11_hall 47 = .ok (.istore_n 2, 1) := by decide +kernel
theorem dX11_hall_48 : decode cX11_hall 48 = .ok (.iload_n 2, 1) := by decide +kernel
theorem dX11_hall_49 : decode cX11_hall 49 = .ok (.aload_n 0, 1) := by decide +kernel
theorem dX11_hall_50 : decode cX11_hall 50 = .ok (.getfield 124, 3) := by decide +kernel
theorem dX11_hall_53 : decode cX11_hall 53 = .ok (.if_icmp .ge 21, 3) := by decide +kernel
theorem dX11_hall_56 : decode cX11_hall 56 = .ok (.aload_n 0, 1) := by decide +kernel
theorem dX11_hall_57 : decode cX11_hall 57 = .ok (.getfield 26, 3) := by decide +kernel
theorem dX11_hall_60 : decode cX11_hall 60 = .ok (.iload_n 2, 1) := by decide +kernel
theorem dX11_hall_61 : decode cX11_hall 61 = .ok (.aload_n 0, 1) := by decide +kernel
theorem dX11_hall_62 : decode cX11_hall 62 = .ok (.getfield 32, 3) := by decide +kernel
theorem dX11_hall_65 : decode cX11_hall 65 = .ok (.iload_n 2, 1) := by decide +kernel
theorem dX11_hall_66 : decode cX11_hall 66 = .ok (.iaload, 1) := by decide +kernel
theorem dX11_hall_67 : decode cX11_hall 67 = .ok (.iastore, 1) := by decide +kernel
theorem dX11_hall_68 : decode cX11_hall 68 = .ok (.iinc 2 1, 3) := by decide +kernel
theorem dX11_hall_71 : decode cX11_hall 71 = .ok (.goto (-23), 3) := by decide +kernel
theorem dX11_hall_74 : decode cX11_hall 74 = .ok (.iconst 0, 1) := by decide +kernel
theorem dX11_hall_75 : decode cX11_hall 75 = .ok (.istore_n 2, 1) := by decide +kernel
theorem dX11_hall_76 : decode cX11_hall 76 = .ok (.iload_n 2, 1) := by decide +kernel
theorem dX11_hall_77 : decode cX11_hall 77 = .ok (.bipush 24, 2) := by decide +kernel
theorem dX11_hall_79 : decode cX11_hall 79 = .ok (.if_icmp .ge 21, 3) := by decide +kernel
theorem dX11_hall_82 : decode cX11_hall 82 = .ok (.aload_n 0, 1) := by decide +kernel
theorem dX11_hall_83 : decode cX11_hall 83 = .ok (.getfield 29, 3) := by decide +kernel
theorem dX11_hall_86 : decode cX11_hall 86 = .ok (.iload_n 2, 1) := by decide +kernel
theorem dX11_hall_87 : decode cX11_hall 87 = .ok (.aload_n 0, 1) := by decide +kernel
theorem dX11_hall_88 : decode cX11_hall 88 = .ok (.getfield 35, 3) := by decide +kernel
theorem dX11_hall_91 : decode cX11_hall 91 = .ok (.iload_n 2, 1) := by decide +kernel
theorem dX11_hall_92 : decode cX11_hall 92 = .ok (.iaload, 1) := by decide +kernel
theorem dX11_hall_93 : decode cX11_hall 93 = .ok (.iastore, 1) := by decide +kernel
theorem dX11_hall_94 : decode cX11_hall 94 = .ok (.iinc 2 1, 3) := by decide +kernel
theorem dX11_hall_97 : decode cX11_hall 97 = .ok (.goto (-21), 3) := by decide +kernel
theorem dX11_hall_100 : decode cX11_hall 100 = .ok (.iconst 0, 1) := by decide +kernel
theorem dX11_hall_101 : decode cX11_hall 101 = .ok (.istore_n 2, 1) := by decide +kernel
theorem dX11_hall_102 : decode cX11_hall 102 = .ok (.iload_n 2, 1) := by decide +kernel
theorem dX11_hall_103 : decode cX11_hall 103 = .ok (.bipush 8, 2) := by decide +kernel
theorem dX11_hall_105 : decode cX11_hall 105 = .ok (.if_icmp .ge 27, 3) := by decide +kernel
theorem dX11_hall_108 : decode cX11_hall 108 = .ok (.aload_n 0, 1) := by decide +kernel
theorem dX11_hall_109 : decode cX11_hall 109 = .ok (.getfield 38, 3) := by decide +kernel
theorem dX11_hall_112 : decode cX11_hall 112 = .ok (.iload_n 2, 1) := by decide +kernel
theorem dX11_hall_113 : decode cX11_hall 113 = .ok (.iload_n 2, 1) := by decide +kernel
theorem dX11_hall_114 : decode cX11_hall 114 = .ok (.iconst 5, 1) := by decide +kernel
theorem dX11_hall_115 : decode cX11_hall 115 = .ok (.if_icmp .ne 9, 3) := by decide +kernel
theorem dX11_hall_118 : decode cX11_hall 118 = .ok (.sipush 8190, 3) := by decide +kernel
theorem dX11_hall_121 : decode cX11_hall 121 = .ok (.goto 4, 3) := by decide +kernel
theorem dX11_hall_124 : decode cX11_hall 124 = .ok (.iconst 0, 1) := by decide +kernel
theorem dX11_hall_125 : decode cX11_hall 125 = .ok (.iastore, 1) := by decide +kernel
theorem dX11_hall_126 : decode cX11_hall 126 = .ok (.iinc 2 1, 3) := by decide +kernel
theorem dX11_hall_129 : decode cX11_hall 129 = .ok (.goto (-27), 3) := by decide +kernel
theorem dX11_hall_132 : decode cX11_hall 132 = .ok (.aload_n 0, 1) := by decide +kernel
theorem dX11_hall_133 : decode cX11_hall 133 = .ok (.iconst 0, 1) := by decide +kernel
theorem dX11_hall_134 : decode cX11_hall 134 = .ok (.putfield 127, 3) := by decide +kernel
theorem dX11_hall_137 : decode cX11_hall 137 = .ok (.iconst 0, 1) := by decide +kernel
theorem dX11_hall_138 : decode cX11_hall 138 = .ok (.istore_n 2, 1) := by decide +kernel
theorem dX11_hall_139 : decode cX11_hall 139 = .ok (.iload_n 2, 1) := by decide +kernel
theorem dX11_hall_140 : decode cX11_hall 140 = .ok (.iconst 3, 1) := by decide +kernel
theorem dX11_hall_141 : decode cX11_hall 141 = .ok (.if_icmp .ge 16, 3) := by decide +kernel
theorem dX11_hall_144 : decode cX11_hall 144 = .ok (.aload_n 0, 1) := by decide +kernel
theorem dX11_hall_145 : decode cX11_hall 145 = .ok (.getfield 41, 3) := by decide +kernel
theorem dX11_hall_148 : decode cX11_hall 148 = .ok (.iload_n 2, 1) := by decide +kernel
theorem dX11_hall_149 : decode cX11_hall 149 = .ok (.iconst (-1), 1) := by decide +kernel
theorem dX11_hall_150 : decode cX11_hall 150 = .ok (.iastore, 1) := by decide +kernel
theorem dX11_hall_151 : decode cX11_hall 151 = .ok (.iinc 2 1, 3) := by decide +kernel
theorem dX11_hall_154 : decode cX11_hall 154 = .ok (.goto (-15), 3) := by decide +kernel
theorem dX11_hall_157 : decode cX11_hall 157 = .ok (.aload_n 0, 1) := by decide +kernel
theorem dX11_hall_158 : decode cX11_hall 158 = .ok (.getfield 124, 3) := by decide +kernel
theorem dX11_hall_161 : decode cX11_hall 161 = .ok (.ireturn, 1) := by decide +kernel
theorem dX11_isPlayer_0 : decode cX11_isPlayer 0 = .ok (.iload_n 1, 1) := by decide +kernel
theorem dX11_isPlayer_1 : decode cX11_isPlayer 1 = .ok (.i2l, 1) := by decide +kernel
theorem dX11_isPlayer_2 : decode cX11_isPlayer 2 = .ok (.lconst 0, 1) := by decide +kernel
theorem dX11_isPlayer_3 : decode cX11_isPlayer 3 = .ok (.aload_n 0, 1) := by decide +kernel
theorem dX11_isPlayer_4 : decode cX11_isPlayer 4 = .ok (.getfield 124, 3) := by decide +kernel
theorem dX11_isPlayer_7 : decode cX11_isPlayer 7 = .ok (.iconst 1, 1) := by decide +kernel
theorem dX11_isPlayer_8 : decode cX11_isPlayer 8 = .ok (.isub, 1) := by decide +kernel
theorem dX11_isPlayer_9 : decode cX11_isPlayer 9 = .ok (.i2l, 1) := by decide +kernel
theorem dX11_isPlayer_10 : decode cX11_isPlayer 10 = .ok (.invokestatic 69, 3) := by decide +kernel
theorem dX11_isPlayer_13 : decode cX11_isPlayer 13 = .ok (.ireturn, 1) := by decide +kernel
theorem dX11_isA_0 : decode cX11_isA 0 = .ok (.iload_n 0, 1) := by decide +kernel
theorem dX11_isA_1 : decode cX11_isA 1 = .ok (.iload_n 1, 1) := by decide +kernel
theorem dX11_isA_2 : decode cX11_isA 2 = .ok (.if_icmp .eq 27, 3) := by decide +kernel
theorem dX11_isA_5 : decode cX11_isA 5 = .ok (.iload_n 1, 1) := by decide +kernel
theorem dX11_isA_6 : decode cX11_isA 6 = .ok (.ifCond .eq 23, 3) := by decide +kernel
theorem dX11_isA_9 : decode cX11_isA 9 = .ok (.iload_n 1, 1) := by decide +kernel
theorem dX11_isA_10 : decode cX11_isA 10 = .ok (.iconst 1, 1) := by decide +kernel
theorem dX11_isA_11 : decode cX11_isA 11 = .ok (.if_icmp .ne 8, 3) := by decide +kernel
theorem dX11_isA_14 : decode cX11_isA 14 = .ok (.iload_n 0, 1) := by decide +kernel
theorem dX11_isA_15 : decode cX11_isA 15 = .ok (.iconst 4, 1) := by decide +kernel
theorem dX11_isA_16 : decode cX11_isA 16 = .ok (.if_icmp .eq 13, 3) := by decide +kernel
theorem dX11_isA_19 : decode cX11_isA 19 = .ok (.iload_n 1, 1) := by decide +kernel
theorem dX11_isA_20 : decode cX11_isA 20 = .ok (.iconst 2, 1) := by decide +kernel
theorem dX11_isA_21 : decode cX11_isA 21 = .ok (.if_icmp .ne 12, 3) := by decide +kernel
theorem dX11_isA_24 : decode cX11_isA 24 = .ok (.iload_n 0, 1) := by decide +kernel
theorem dX11_isA_25 : decode cX11_isA 25 = .ok (.iconst 5, 1) := by decide +kernel
theorem dX11_isA_26 : decode cX11_isA 26 = .ok (.if_icmp .ne 7, 3) := by decide +kernel
theorem dX11_isA_29 : decode cX11_isA 29 = .ok (.iconst 1, 1) := by decide +kernel
theorem dX11_isA_30 : decode cX11_isA 30 = .ok (.goto 4, 3) := by decide +kernel
theorem dX11_isA_33 : decode cX11_isA 33 = .ok (.iconst 0, 1) := by decide +kernel
theorem dX11_isA_34 : decode cX11_isA 34 = .ok (.ireturn, 1) := by decide +kernel
theorem dX11_heard_0 : decode cX11_heard 0 = .ok (.iload_n 0, 1) := by decide +kernel
theorem dX11_heard_1 : decode cX11_heard 1 = .ok (.iconst 4, 1) := by decide +kernel
theorem dX11_heard_2 : decode cX11_heard 2 = .ok (.if_icmp .ne 15, 3) := by decide +kernel
theorem dX11_heard_5 : decode cX11_heard 5 = .ok (.iload_n 2, 1) := by decide +kernel
theorem dX11_heard_6 : decode cX11_heard 6 = .ok (.ifCond .ne 7, 3) := by decide +kernel
theorem dX11_heard_9 : decode cX11_heard 9 = .ok (.iconst 0, 1) := by decide +kernel
theorem dX11_heard_10 : decode cX11_heard 10 = .ok (.goto 6, 3) := by decide +kernel
theorem dX11_heard_13 : decode cX11_heard 13 = .ok (.iconst 1, 1) := by decide +kernel
theorem dX11_heard_14 : decode cX11_heard 14 = .ok (.iload_n 2, 1) := by decide +kernel
theorem dX11_heard_15 : decode cX11_heard 15 = .ok (.ishl, 1) := by decide +kernel
theorem dX11_heard_16 : decode cX11_heard 16 = .ok (.ireturn, 1) := by decide +kernel
theorem dX11_heard_17 : decode cX11_heard 17 = .ok (.iload_n 0, 1) := by decide +kernel
theorem dX11_heard_18 : decode cX11_heard 18 = .ok (.iconst 2, 1) := by decide +kernel
theorem dX11_heard_19 : decode cX11_heard 19 = .ok (.invokestatic 130, 3) := by decide +kernel
theorem dX11_heard_22 : decode cX11_heard 22 = .ok (.ifCond .eq 12, 3) := by decide +kernel
theorem dX11_heard_25 : decode cX11_heard 25 = .ok (.iload_n 3, 1) := by decide +kernel
theorem dX11_heard_26 : decode cX11_heard 26 = .ok (.iconst 3, 1) := by decide +kernel
theorem dX11_heard_27 : decode cX11_heard 27 = .ok (.irem, 1) := by decide +kernel
theorem dX11_heard_28 : decode cX11_heard 28 = .ok (.iconst 2, 1) := by decide +kernel
theorem dX11_heard_29 : decode cX11_heard 29 = .ok (.if_icmp .ne 5, 3) := by decide +kernel
theorem dX11_heard_32 : decode cX11_heard 32 = .ok (.iconst 0, 1) := by decide +kernel
theorem dX11_heard_33 : decode cX11_heard 33 = .ok (.ireturn, 1) := by decide +kernel
theorem dX11_heard_34 : decode cX11_heard 34 = .ok (.iload_n 0, 1) := by decide +kernel
theorem dX11_heard_35 : decode cX11_heard 35 = .ok (.iconst 5, 1) := by decide +kernel
theorem dX11_heard_36 : decode cX11_heard 36 = .ok (.if_icmp .ne 18, 3) := by decide +kernel
theorem dX11_heard_39 : decode cX11_heard 39 = .ok (.iconst 1, 1) := by decide +kernel
theorem dX11_heard_40 : decode cX11_heard 40 = .ok (.iload_n 1, 1) := by decide +kernel
theorem dX11_heard_41 : decode cX11_heard 41 = .ok (.ishl, 1) := by decide +kernel
theorem dX11_heard_42 : decode cX11_heard 42 = .ok (.iconst 1, 1) := by decide +kernel
theorem dX11_heard_43 : decode cX11_heard 43 = .ok (.iload_n 1, 1) := by decide +kernel
theorem dX11_heard_44 : decode cX11_heard 44 = .ok (.bipush 12, 2) := by decide +kernel
theorem dX11_heard_46 : decode cX11_heard 46 = .ok (.irem, 1) := by decide +kernel
theorem dX11_heard_47 : decode cX11_heard 47 = .ok (.iconst 1, 1) := by decide +kernel
theorem dX11_heard_48 : decode cX11_heard 48 = .ok (.iadd, 1) := by decide +kernel
theorem dX11_heard_49 : decode cX11_heard 49 = .ok (.ishl, 1) := by decide +kernel
theorem dX11_heard_50 : decode cX11_heard 50 = .ok (.ior, 1) := by decide +kernel
theorem dX11_heard_51 : decode cX11_heard 51 = .ok (.goto 6, 3) := by decide +kernel
theorem dX11_heard_54 : decode cX11_heard 54 = .ok (.iconst 1, 1) := by decide +kernel
theorem dX11_heard_55 : decode cX11_heard 55 = .ok (.iload_n 1, 1) := by decide +kernel
theorem dX11_heard_56 : decode cX11_heard 56 = .ok (.ishl, 1) := by decide +kernel
theorem dX11_heard_57 : decode cX11_heard 57 = .ok (.ireturn, 1) := by decide +kernel
theorem dX11_needs_0 : decode cX11_needs 0 = .ok (.iconst 3, 1) := by decide +kernel
theorem dX11_needs_1 : decode cX11_needs 1 = .ok (.iload_n 1, 1) := by decide +kernel
theorem dX11_needs_2 : decode cX11_needs 2 = .ok (.bipush 7, 2) := by decide +kernel
theorem dX11_needs_4 : decode cX11_needs 4 = .ok (.iand, 1) := by decide +kernel
theorem dX11_needs_5 : decode cX11_needs 5 = .ok (.invokestatic 133, 3) := by decide +kernel
theorem dX11_needs_8 : decode cX11_needs 8 = .ok (.isub, 1) := by decide +kernel
theorem dX11_needs_9 : decode cX11_needs 9 = .ok (.istore_n 2, 1) := by decide +kernel
theorem dX11_needs_10 : decode cX11_needs 10 = .ok (.iconst 3, 1) := by decide +kernel
theorem dX11_needs_11 : decode cX11_needs 11 = .ok (.iload_n 1, 1) := by decide +kernel
theorem dX11_needs_12 : decode cX11_needs 12 = .ok (.iconst 3, 1) := by decide +kernel
theorem dX11_needs_13 : decode cX11_needs 13 = .ok (.ishr, 1) := by decide +kernel
theorem dX11_needs_14 : decode cX11_needs 14 = .ok (.invokestatic 133, 3) := by decide +kernel
theorem dX11_needs_17 : decode cX11_needs 17 = .ok (.isub, 1) := by decide +kernel
theorem dX11_needs_18 : decode cX11_needs 18 = .ok (.istore_n 3, 1) := by decide +kernel
theorem dX11_needs_19 : decode cX11_needs 19 = .ok (.iload_n 2, 1) := by decide +kernel
theorem dX11_needs_20 : decode cX11_needs 20 = .ok (.iload_n 3, 1) := by decide +kernel
theorem dX11_needs_21 : decode cX11_needs 21 = .ok (.invokestatic 101, 3) := by decide +kernel
theorem dX11_needs_24 : decode cX11_needs 24 = .ok (.istore 4, 2) := by decide +kernel
theorem dX11_needs_26 : decode cX11_needs 26 = .ok (.iconst 0, 1) := by decide +kernel
theorem dX11_needs_27 : decode cX11_needs 27 = .ok (.iload_n 2, 1) := by decide +kernel
theorem dX11_needs_28 : decode cX11_needs 28 = .ok (.iconst 1, 1) := by decide +kernel
theorem dX11_needs_29 : decode cX11_needs 29 = .ok (.isub, 1) := by decide +kernel
theorem dX11_needs_30 : decode cX11_needs 30 = .ok (.invokestatic 136, 3) := by decide +kernel
theorem dX11_needs_33 : decode cX11_needs 33 = .ok (.iconst 0, 1) := by decide +kernel
theorem dX11_needs_34 : decode cX11_needs 34 = .ok (.iload_n 3, 1) := by decide +kernel
theorem dX11_needs_35 : decode cX11_needs 35 = .ok (.iconst 1, 1) := by decide +kernel
theorem dX11_needs_36 : decode cX11_needs 36 = .ok (.isub, 1) := by decide +kernel
theorem dX11_needs_37 : decode cX11_needs 37 = .ok (.invokestatic 136, 3) := by decide +kernel
theorem dX11_needs_40 : decode cX11_needs 40 = .ok (.iadd, 1) := by decide +kernel
theorem dX11_needs_41 : decode cX11_needs 41 = .ok (.istore 5, 2) := by decide +kernel
theorem dX11_needs_43 : decode cX11_needs 43 = .ok (.iload_n 0, 1) := by decide +kernel
theorem dX11_needs_44 : decode cX11_needs 44 = .ok (.iconst 1, 1) := by decide +kernel
theorem dX11_needs_45 : decode cX11_needs 45 = .ok (.invokestatic 130, 3) := by decide +kernel
theorem dX11_needs_48 : decode cX11_needs 48 = .ok (.ifCond .eq 9, 3) := by decide +kernel
theorem dX11_needs_51 : decode cX11_needs 51 = .ok (.iload_n 2, 1) := by decide +kernel
theorem dX11_needs_52 : decode cX11_needs 52 = .ok (.iload_n 3, 1) := by decide +kernel
theorem dX11_needs_53 : decode cX11_needs 53 = .ok (.iadd, 1) := by decide +kernel
theorem dX11_needs_54 : decode cX11_needs 54 = .ok (.goto 20, 3) := by decide +kernel
theorem dX11_needs_57 : decode cX11_needs 57 = .ok (.iload_n 0, 1) := by decide +kernel
theorem dX11_needs_58 : decode cX11_needs 58 = .ok (.iconst 3, 1) := by decide +kernel
theorem dX11_needs_59 : decode cX11_needs 59 = .ok (.if_icmp .ne 13, 3) := by decide +kernel
theorem dX11_needs_62 : decode cX11_needs 62 = .ok (.iload 4, 2) := by decide +kernel
theorem dX11_needs_64 : decode cX11_needs 64 = .ok (.iload 5, 2) := by decide +kernel
theorem dX11_needs_66 : decode cX11_needs 66 = .ok (.invokestatic 101, 3) := by decide +kernel
theorem dX11_needs_69 : decode cX11_needs 69 = .ok (.goto 5, 3) := by decide +kernel
theorem dX11_needs_72 : decode cX11_needs 72 = .ok (.iload 4, 2) := by decide +kernel
theorem dX11_needs_74 : decode cX11_needs 74 = .ok (.ireturn, 1) := by decide +kernel
theorem dX11_marksBy_0 : decode cX11_marksBy 0 = .ok (.iconst 0, 1) := by decide +kernel
theorem dX11_marksBy_1 : decode cX11_marksBy 1 = .ok (.istore_n 3, 1) := by decide +kernel
theorem dX11_marksBy_2 : decode cX11_marksBy 2 = .ok (.iconst 0, 1) := by decide +kernel
theorem dX11_marksBy_3 : decode cX11_marksBy 3 = .ok (.istore 4, 2) := by decide +kernel
theorem dX11_marksBy_5 : decode cX11_marksBy 5 = .ok (.iload 4, 2) := by decide +kernel
theorem dX11_marksBy_7 : decode cX11_marksBy 7 = .ok (.bipush 6, 2) := by decide +kernel
theorem dX11_marksBy_9 : decode cX11_marksBy 9 = .ok (.if_icmp .ge 39, 3) := by decide +kernel
theorem dX11_marksBy_12 : decode cX11_marksBy 12 = .ok (.iload_n 3, 1) := by decide +kernel
theorem dX11_marksBy_13 : decode cX11_marksBy 13 = .ok (.iload_n 2, 1) := by decide +kernel
theorem dX11_marksBy_14 : decode cX11_marksBy 14 = .ok (.aload_n 0, 1) := by decide +kernel
theorem dX11_marksBy_15 : decode cX11_marksBy 15 = .ok (.getfield 29, 3) := by decide +kernel
theorem dX11_marksBy_18 : decode cX11_marksBy 18 = .ok (.bipush 6, 2) := by decide +kernel
theorem dX11_marksBy_20 : decode cX11_marksBy 20 = .ok (.iload_n 1, 1) := by decide +kernel
theorem dX11_marksBy_21 : decode cX11_marksBy 21 = .ok (.imul, 1) := by decide +kernel
theorem dX11_marksBy_22 : decode cX11_marksBy 22 = .ok (.iload 4, 2) := by decide +kernel
theorem dX11_marksBy_24 : decode cX11_marksBy 24 = .ok (.iadd, 1) := by decide +kernel
theorem dX11_marksBy_25 : decode cX11_marksBy 25 = .ok (.iaload, 1) := by decide +kernel
theorem dX11_marksBy_26 : decode cX11_marksBy 26 = .ok (.invokestatic 139, 3) := by decide +kernel
theorem dX11_marksBy_29 : decode cX11_marksBy 29 = .ok (.ifCond .eq 10, 3) := by decide +kernel
theorem dX11_marksBy_32 : decode cX11_marksBy 32 = .ok (.iconst 1, 1) := by decide +kernel
theorem dX11_marksBy_33 : decode cX11_marksBy 33 = .ok (.iload 4, 2) := by decide +kernel
theorem dX11_marksBy_35 : decode cX11_marksBy 35 = .ok (.ishl, 1) := by decide +kernel
theorem dX11_marksBy_36 : decode cX11_marksBy 36 = .ok (.goto 4, 3) := by decide +kernel
theorem dX11_marksBy_39 : decode cX11_marksBy 39 = .ok (.iconst 0, 1) := by decide +kernel
theorem dX11_marksBy_40 : decode cX11_marksBy 40 = .ok (.ior, 1) := by decide +kernel
theorem dX11_marksBy_41 : decode cX11_marksBy 41 = .ok (.istore_n 3, 1) := by decide +kernel
theorem dX11_marksBy_42 : decode cX11_marksBy 42 = .ok (.iinc 4 1, 3) := by decide +kernel
theorem dX11_marksBy_45 : decode cX11_marksBy 45 = .ok (.goto (-40), 3) := by decide +kernel
theorem dX11_marksBy_48 : decode cX11_marksBy 48 = .ok (.iload_n 3, 1) := by decide +kernel
theorem dX11_marksBy_49 : decode cX11_marksBy 49 = .ok (.ireturn, 1) := by decide +kernel
theorem dX11_calls_0 : decode cX11_calls 0 = .ok (.iconst 0, 1) := by decide +kernel
theorem dX11_calls_1 : decode cX11_calls 1 = .ok (.istore_n 3, 1) := by decide +kernel
theorem dX11_calls_2 : decode cX11_calls 2 = .ok (.iconst 0, 1) := by decide +kernel
theorem dX11_calls_3 : decode cX11_calls 3 = .ok (.istore 4, 2) := by decide +kernel
theorem dX11_calls_5 : decode cX11_calls 5 = .ok (.iload 4, 2) := by decide +kernel
theorem dX11_calls_7 : decode cX11_calls 7 = .ok (.aload_n 0, 1) := by decide +kernel
theorem dX11_calls_8 : decode cX11_calls 8 = .ok (.getfield 124, 3) := by decide +kernel
theorem dX11_calls_11 : decode cX11_calls 11 = .ok (.if_icmp .ge 93, 3) := by decide +kernel
theorem dX11_calls_14 : decode cX11_calls 14 = .ok (.aload_n 0, 1) := by decide +kernel
theorem dX11_calls_15 : decode cX11_calls 15 = .ok (.getfield 26, 3) := by decide +kernel
theorem dX11_calls_18 : decode cX11_calls 18 = .ok (.iload 4, 2) := by decide +kernel
theorem dX11_calls_20 : decode cX11_calls 20 = .ok (.iaload, 1) := by decide +kernel
theorem dX11_calls_21 : decode cX11_calls 21 = .ok (.iload_n 2, 1) := by decide +kernel
theorem dX11_calls_22 : decode cX11_calls 22 = .ok (.aload_n 0, 1) := by decide +kernel
theorem dX11_calls_23 : decode cX11_calls 23 = .ok (.getfield 38, 3) := by decide +kernel
theorem dX11_calls_26 : decode cX11_calls 26 = .ok (.iload_n 1, 1) := by decide +kernel
theorem dX11_calls_27 : decode cX11_calls 27 = .ok (.bipush 7, 2) := by decide +kernel
theorem dX11_calls_29 : decode cX11_calls 29 = .ok (.iadd, 1) := by decide +kernel
theorem dX11_calls_30 : decode cX11_calls 30 = .ok (.iaload, 1) := by decide +kernel
theorem dX11_calls_31 : decode cX11_calls 31 = .ok (.aload_n 0, 1) := by decide +kernel
theorem dX11_calls_32 : decode cX11_calls 32 = .ok (.getfield 38, 3) := by decide +kernel
theorem dX11_calls_35 : decode cX11_calls 35 = .ok (.iload_n 1, 1) := by decide +kernel
theorem dX11_calls_36 : decode cX11_calls 36 = .ok (.bipush 6, 2) := by decide +kernel
theorem dX11_calls_38 : decode cX11_calls 38 = .ok (.iadd, 1) := by decide +kernel
theorem dX11_calls_39 : decode cX11_calls 39 = .ok (.iaload, 1) := by decide +kernel
theorem dX11_calls_40 : decode cX11_calls 40 = .ok (.invokestatic 142, 3) := by decide +kernel
theorem dX11_calls_43 : decode cX11_calls 43 = .ok (.istore 5, 2) := by decide +kernel
theorem dX11_calls_45 : decode cX11_calls 45 = .ok (.aload_n 0, 1) := by decide +kernel
theorem dX11_calls_46 : decode cX11_calls 46 = .ok (.getfield 38, 3) := by decide +kernel
theorem dX11_calls_49 : decode cX11_calls 49 = .ok (.iload_n 1, 1) := by decide +kernel
theorem dX11_calls_50 : decode cX11_calls 50 = .ok (.iload 4, 2) := by decide +kernel
theorem dX11_calls_52 : decode cX11_calls 52 = .ok (.iadd, 1) := by decide +kernel
theorem dX11_calls_53 : decode cX11_calls 53 = .ok (.dup2, 1) := by decide +kernel
theorem dX11_calls_54 : decode cX11_calls 54 = .ok (.iaload, 1) := by decide +kernel
theorem dX11_calls_55 : decode cX11_calls 55 = .ok (.aload_n 0, 1) := by decide +kernel
theorem dX11_calls_56 : decode cX11_calls 56 = .ok (.iload 4, 2) := by decide +kernel
theorem dX11_calls_58 : decode cX11_calls 58 = .ok (.iload 5, 2) := by decide +kernel
theorem dX11_calls_60 : decode cX11_calls 60 = .ok (.invokevirtual 146, 3) := by decide +kernel
theorem dX11_calls_63 : decode cX11_calls 63 = .ok (.ior, 1) := by decide +kernel
theorem dX11_calls_64 : decode cX11_calls 64 = .ok (.iastore, 1) := by decide +kernel
theorem dX11_calls_65 : decode cX11_calls 65 = .ok (.iload_n 3, 1) := by decide +kernel
theorem dX11_calls_66 : decode cX11_calls 66 = .ok (.aload_n 0, 1) := by decide +kernel
theorem dX11_calls_67 : decode cX11_calls 67 = .ok (.getfield 26, 3) := by decide +kernel
theorem dX11_calls_70 : decode cX11_calls 70 = .ok (.iload 4, 2) := by decide +kernel
theorem dX11_calls_72 : decode cX11_calls 72 = .ok (.iaload, 1) := by decide +kernel
theorem dX11_calls_73 : decode cX11_calls 73 = .ok (.aload_n 0, 1) := by decide +kernel
theorem dX11_calls_74 : decode cX11_calls 74 = .ok (.getfield 38, 3) := by decide +kernel
theorem dX11_calls_77 : decode cX11_calls 77 = .ok (.iload_n 1, 1) := by decide +kernel
theorem dX11_calls_78 : decode cX11_calls 78 = .ok (.iload 4, 2) := by decide +kernel
theorem dX11_calls_80 : decode cX11_calls 80 = .ok (.iadd, 1) := by decide +kernel
theorem dX11_calls_81 : decode cX11_calls 81 = .ok (.iaload, 1) := by decide +kernel
theorem dX11_calls_82 : decode cX11_calls 82 = .ok (.invokestatic 149, 3) := by decide +kernel
theorem dX11_calls_85 : decode cX11_calls 85 = .ok (.ifCond .ne 10, 3) := by decide +kernel
theorem dX11_calls_88 : decode cX11_calls 88 = .ok (.iconst 1, 1) := by decide +kernel
theorem dX11_calls_89 : decode cX11_calls 89 = .ok (.iload 4, 2) := by decide +kernel
theorem dX11_calls_91 : decode cX11_calls 91 = .ok (.ishl, 1) := by decide +kernel
theorem dX11_calls_92 : decode cX11_calls 92 = .ok (.goto 4, 3) := by decide +kernel
theorem dX11_calls_95 : decode cX11_calls 95 = .ok (.iconst 0, 1) := by decide +kernel
theorem dX11_calls_96 : decode cX11_calls 96 = .ok (.ior, 1) := by decide +kernel
theorem dX11_calls_97 : decode cX11_calls 97 = .ok (.istore_n 3, 1) := by decide +kernel
theorem dX11_calls_98 : decode cX11_calls 98 = .ok (.iinc 4 1, 3) := by decide +kernel
theorem dX11_calls_101 : decode cX11_calls 101 = .ok (.goto (-96), 3) := by decide +kernel
theorem dX11_calls_104 : decode cX11_calls 104 = .ok (.iload_n 3, 1) := by decide +kernel
theorem dX11_calls_105 : decode cX11_calls 105 = .ok (.aload_n 0, 1) := by decide +kernel
theorem dX11_calls_106 : decode cX11_calls 106 = .ok (.getfield 38, 3) := by decide +kernel
theorem dX11_calls_109 : decode cX11_calls 109 = .ok (.iload_n 1, 1) := by decide +kernel
theorem dX11_calls_110 : decode cX11_calls 110 = .ok (.iconst 4, 1) := by decide +kernel
theorem dX11_calls_111 : decode cX11_calls 111 = .ok (.iadd, 1) := by decide +kernel
theorem dX11_calls_112 : decode cX11_calls 112 = .ok (.iaload, 1) := by decide +kernel
theorem dX11_calls_113 : decode cX11_calls 113 = .ok (.iconst (-1), 1) := by decide +kernel
theorem dX11_calls_114 : decode cX11_calls 114 = .ok (.ixor, 1) := by decide +kernel
theorem dX11_calls_115 : decode cX11_calls 115 = .ok (.iand, 1) := by decide +kernel
theorem dX11_calls_116 : decode cX11_calls 116 = .ok (.istore 4, 2) := by decide +kernel
theorem dX11_calls_118 : decode cX11_calls 118 = .ok (.aload_n 0, 1) := by decide +kernel
theorem dX11_calls_119 : decode cX11_calls 119 = .ok (.getfield 38, 3) := by decide +kernel
theorem dX11_calls_122 : decode cX11_calls 122 = .ok (.iload_n 1, 1) := by decide +kernel
theorem dX11_calls_123 : decode cX11_calls 123 = .ok (.iconst 4, 1) := by decide +kernel
theorem dX11_calls_124 : decode cX11_calls 124 = .ok (.iadd, 1) := by decide +kernel
theorem dX11_calls_125 : decode cX11_calls 125 = .ok (.dup2, 1) := by decide +kernel
theorem dX11_calls_126 : decode cX11_calls 126 = .ok (.iaload, 1) := by decide +kernel
theorem dX11_calls_127 : decode cX11_calls 127 = .ok (.iload_n 3, 1) := by decide +kernel
theorem dX11_calls_128 : decode cX11_calls 128 = .ok (.ior, 1) := by decide +kernel
theorem dX11_calls_129 : decode cX11_calls 129 = .ok (.iastore, 1) := by decide +kernel
theorem dX11_calls_130 : decode cX11_calls 130 = .ok (.aload_n 0, 1) := by decide +kernel
theorem dX11_calls_131 : decode cX11_calls 131 = .ok (.getfield 38, 3) := by decide +kernel
theorem dX11_calls_134 : decode cX11_calls 134 = .ok (.iload_n 1, 1) := by decide +kernel
theorem dX11_calls_135 : decode cX11_calls 135 = .ok (.iconst 5, 1) := by decide +kernel
theorem dX11_calls_136 : decode cX11_calls 136 = .ok (.iadd, 1) := by decide +kernel
theorem dX11_calls_137 : decode cX11_calls 137 = .ok (.dup2, 1) := by decide +kernel
theorem dX11_calls_138 : decode cX11_calls 138 = .ok (.iaload, 1) := by decide +kernel
theorem dX11_calls_139 : decode cX11_calls 139 = .ok (.iconst 1, 1) := by decide +kernel
theorem dX11_calls_140 : decode cX11_calls 140 = .ok (.iload_n 2, 1) := by decide +kernel
theorem dX11_calls_141 : decode cX11_calls 141 = .ok (.ishl, 1) := by decide +kernel
theorem dX11_calls_142 : decode cX11_calls 142 = .ok (.iconst (-1), 1) := by decide +kernel
theorem dX11_calls_143 : decode cX11_calls 143 = .ok (.ixor, 1) := by decide +kernel
theorem dX11_calls_144 : decode cX11_calls 144 = .ok (.iand, 1) := by decide +kernel
theorem dX11_calls_145 : decode cX11_calls 145 = .ok (.iastore, 1) := by decide +kernel
theorem dX11_calls_146 : decode cX11_calls 146 = .ok (.aload_n 0, 1) := by decide +kernel
theorem dX11_calls_147 : decode cX11_calls 147 = .ok (.getfield 38, 3) := by decide +kernel
theorem dX11_calls_150 : decode cX11_calls 150 = .ok (.iload_n 1, 1) := by decide +kernel
theorem dX11_calls_151 : decode cX11_calls 151 = .ok (.bipush 6, 2) := by decide +kernel
theorem dX11_calls_153 : decode cX11_calls 153 = .ok (.iadd, 1) := by decide +kernel
theorem dX11_calls_154 : decode cX11_calls 154 = .ok (.dup2, 1) := by decide +kernel
theorem dX11_calls_155 : decode cX11_calls 155 = .ok (.iaload, 1) := by decide +kernel
theorem dX11_calls_156 : decode cX11_calls 156 = .ok (.iconst 1, 1) := by decide +kernel
theorem dX11_calls_157 : decode cX11_calls 157 = .ok (.iadd, 1) := by decide +kernel
theorem dX11_calls_158 : decode cX11_calls 158 = .ok (.iastore, 1) := by decide +kernel
theorem dX11_calls_159 : decode cX11_calls 159 = .ok (.aload_n 0, 1) := by decide +kernel
theorem dX11_calls_160 : decode cX11_calls 160 = .ok (.getfield 38, 3) := by decide +kernel
theorem dX11_calls_163 : decode cX11_calls 163 = .ok (.iload_n 1, 1) := by decide +kernel
theorem dX11_calls_164 : decode cX11_calls 164 = .ok (.bipush 7, 2) := by decide +kernel
theorem dX11_calls_166 : decode cX11_calls 166 = .ok (.iadd, 1) := by decide +kernel
theorem dX11_calls_167 : decode cX11_calls 167 = .ok (.iload_n 2, 1) := by decide +kernel
theorem dX11_calls_168 : decode cX11_calls 168 = .ok (.iastore, 1) := by decide +kernel
theorem dX11_calls_169 : decode cX11_calls 169 = .ok (.iload 4, 2) := by decide +kernel
theorem dX11_calls_171 : decode cX11_calls 171 = .ok (.ireturn, 1) := by decide +kernel
theorem dX11_told_0 : decode cX11_told 0 = .ok (.iload_n 2, 1) := by decide +kernel
theorem dX11_told_1 : decode cX11_told 1 = .ok (.ifCond .ne 12, 3) := by decide +kernel
theorem dX11_told_4 : decode cX11_told 4 = .ok (.aload_n 0, 1) := by decide +kernel
theorem dX11_told_5 : decode cX11_told 5 = .ok (.getfield 26, 3) := by decide +kernel
theorem dX11_told_8 : decode cX11_told 8 = .ok (.iload_n 1, 1) := by decide +kernel
theorem dX11_told_9 : decode cX11_told 9 = .ok (.iaload, 1) := by decide +kernel
theorem dX11_told_10 : decode cX11_told 10 = .ok (.goto 81, 3) := by decide +kernel
theorem dX11_told_13 : decode cX11_told 13 = .ok (.iload_n 2, 1) := by decide +kernel
theorem dX11_told_14 : decode cX11_told 14 = .ok (.iconst 1, 1) := by decide +kernel
theorem dX11_told_15 : decode cX11_told 15 = .ok (.if_icmp .ne 12, 3) := by decide +kernel
theorem dX11_told_18 : decode cX11_told 18 = .ok (.aload_n 0, 1) := by decide +kernel
theorem dX11_told_19 : decode cX11_told 19 = .ok (.getfield 38, 3) := by decide +kernel
theorem dX11_told_22 : decode cX11_told 22 = .ok (.iload_n 1, 1) := by decide +kernel
theorem dX11_told_23 : decode cX11_told 23 = .ok (.iaload, 1) := by decide +kernel
theorem dX11_told_24 : decode cX11_told 24 = .ok (.goto 67, 3) := by decide +kernel
theorem dX11_told_27 : decode cX11_told 27 = .ok (.iload_n 2, 1) := by decide +kernel
theorem dX11_told_28 : decode cX11_told 28 = .ok (.iconst 2, 1) := by decide +kernel
theorem dX11_told_29 : decode cX11_told 29 = .ok (.if_icmp .ne 16, 3) := by decide +kernel
theorem dX11_told_32 : decode cX11_told 32 = .ok (.aload_n 0, 1) := by decide +kernel
theorem dX11_told_33 : decode cX11_told 33 = .ok (.getfield 38, 3) := by decide +kernel
theorem dX11_told_36 : decode cX11_told 36 = .ok (.iconst 4, 1) := by decide +kernel
theorem dX11_told_37 : decode cX11_told 37 = .ok (.iaload, 1) := by decide +kernel
theorem dX11_told_38 : decode cX11_told 38 = .ok (.iload_n 1, 1) := by decide +kernel
theorem dX11_told_39 : decode cX11_told 39 = .ok (.ishr, 1) := by decide +kernel
theorem dX11_told_40 : decode cX11_told 40 = .ok (.iconst 1, 1) := by decide +kernel
theorem dX11_told_41 : decode cX11_told 41 = .ok (.iand, 1) := by decide +kernel
theorem dX11_told_42 : decode cX11_told 42 = .ok (.goto 49, 3) := by decide +kernel
theorem dX11_told_45 : decode cX11_told 45 = .ok (.iload_n 2, 1) := by decide +kernel
theorem dX11_told_46 : decode cX11_told 46 = .ok (.iconst 3, 1) := by decide +kernel
theorem dX11_told_47 : decode cX11_told 47 = .ok (.if_icmp .ne 29, 3) := by decide +kernel
theorem dX11_told_50 : decode cX11_told 50 = .ok (.aload_n 0, 1) := by decide +kernel
theorem dX11_told_51 : decode cX11_told 51 = .ok (.getfield 26, 3) := by decide +kernel
theorem dX11_told_54 : decode cX11_told 54 = .ok (.iload_n 1, 1) := by decide +kernel
theorem dX11_told_55 : decode cX11_told 55 = .ok (.iaload, 1) := by decide +kernel
theorem dX11_told_56 : decode cX11_told 56 = .ok (.aload_n 0, 1) := by decide +kernel
theorem dX11_told_57 : decode cX11_told 57 = .ok (.getfield 38, 3) := by decide +kernel
theorem dX11_told_60 : decode cX11_told 60 = .ok (.iload_n 1, 1) := by decide +kernel
theorem dX11_told_61 : decode cX11_told 61 = .ok (.iaload, 1) := by decide +kernel
theorem dX11_told_62 : decode cX11_told 62 = .ok (.invokestatic 149, 3) := by decide +kernel
theorem dX11_told_65 : decode cX11_told 65 = .ok (.ifCond .ne 7, 3) := by decide +kernel
theorem dX11_told_68 : decode cX11_told 68 = .ok (.iconst 1, 1) := by decide +kernel
theorem dX11_told_69 : decode cX11_told 69 = .ok (.goto 22, 3) := by decide +kernel
theorem dX11_told_72 : decode cX11_told 72 = .ok (.iconst 0, 1) := by decide +kernel
theorem dX11_told_73 : decode cX11_told 73 = .ok (.goto 18, 3) := by decide +kernel
theorem dX11_told_76 : decode cX11_told 76 = .ok (.aload_n 0, 1) := by decide +kernel
theorem dX11_told_77 : decode cX11_told 77 = .ok (.getfield 26, 3) := by decide +kernel
theorem dX11_told_80 : decode cX11_told 80 = .ok (.iload_n 1, 1) := by decide +kernel
theorem dX11_told_81 : decode cX11_told 81 = .ok (.iaload, 1) := by decide +kernel
theorem dX11_told_82 : decode cX11_told 82 = .ok (.aload_n 0, 1) := by decide +kernel
theorem dX11_told_83 : decode cX11_told 83 = .ok (.getfield 38, 3) := by decide +kernel
theorem dX11_told_86 : decode cX11_told 86 = .ok (.iload_n 1, 1) := by decide +kernel
theorem dX11_told_87 : decode cX11_told 87 = .ok (.iaload, 1) := by decide +kernel
theorem dX11_told_88 : decode cX11_told 88 = .ok (.invokestatic 149, 3) := by decide +kernel
theorem dX11_told_91 : decode cX11_told 91 = .ok (.ireturn, 1) := by decide +kernel
theorem dX11_player_0 : decode cX11_player 0 = .ok (.aload_n 0, 1) := by decide +kernel
theorem dX11_player_1 : decode cX11_player 1 = .ok (.iload_n 1, 1) := by decide +kernel
theorem dX11_player_2 : decode cX11_player 2 = .ok (.invokevirtual 152, 3) := by decide +kernel
theorem dX11_player_5 : decode cX11_player 5 = .ok (.ifCond .eq 28, 3) := by decide +kernel
theorem dX11_player_8 : decode cX11_player 8 = .ok (.iload_n 2, 1) := by decide +kernel
theorem dX11_player_9 : decode cX11_player 9 = .ok (.i2l, 1) := by decide +kernel
theorem dX11_player_10 : decode cX11_player 10 = .ok (.lconst 0, 1) := by decide +kernel
theorem dX11_player_11 : decode cX11_player 11 = .ok (.ldc2_w 155, 3) := by decide +kernel
theorem dX11_player_14 : decode cX11_player 14 = .ok (.invokestatic 69, 3) := by decide +kernel
theorem dX11_player_17 : decode cX11_player 17 = .ok (.ifCond .eq 16, 3) := by decide +kernel
theorem dX11_player_20 : decode cX11_player 20 = .ok (.aload_n 0, 1) := by decide +kernel
theorem dX11_player_21 : decode cX11_player 21 = .ok (.aload_n 0, 1) := by decide +kernel
theorem dX11_player_22 : decode cX11_player 22 = .ok (.iload_n 1, 1) := by decide +kernel
theorem dX11_player_23 : decode cX11_player 23 = .ok (.iload_n 2, 1) := by decide +kernel
theorem dX11_player_24 : decode cX11_player 24 = .ok (.invokevirtual 157, 3) := by decide +kernel
theorem dX11_player_27 : decode cX11_player 27 = .ok (.invokevirtual 87, 3) := by decide +kernel
theorem dX11_player_30 : decode cX11_player 30 = .ok (.goto 4, 3) := by decide +kernel
theorem dX11_player_33 : decode cX11_player 33 = .ok (.iconst (-1), 1) := by decide +kernel
theorem dX11_player_34 : decode cX11_player 34 = .ok (.ireturn, 1) := by decide +kernel
theorem dX11_card_0 : decode cX11_card 0 = .ok (.aload_n 0, 1) := by decide +kernel
theorem dX11_card_1 : decode cX11_card 1 = .ok (.iload_n 1, 1) := by decide +kernel
theorem dX11_card_2 : decode cX11_card 2 = .ok (.invokevirtual 152, 3) := by decide +kernel
theorem dX11_card_5 : decode cX11_card 5 = .ok (.ifCond .eq 33, 3) := by decide +kernel
theorem dX11_card_8 : decode cX11_card 8 = .ok (.iload_n 2, 1) := by decide +kernel
theorem dX11_card_9 : decode cX11_card 9 = .ok (.i2l, 1) := by decide +kernel
theorem dX11_card_10 : decode cX11_card 10 = .ok (.lconst 0, 1) := by decide +kernel
theorem dX11_card_11 : decode cX11_card 11 = .ok (.ldc2_w 67, 3) := by decide +kernel
theorem dX11_card_14 : decode cX11_card 14 = .ok (.invokestatic 69, 3) := by decide +kernel
theorem dX11_card_17 : decode cX11_card 17 = .ok (.ifCond .eq 21, 3) := by decide +kernel
theorem dX11_card_20 : decode cX11_card 20 = .ok (.aload_n 0, 1) := by decide +kernel
theorem dX11_card_21 : decode cX11_card 21 = .ok (.aload_n 0, 1) := by decide +kernel
theorem dX11_card_22 : decode cX11_card 22 = .ok (.getfield 29, 3) := by decide +kernel
theorem dX11_card_25 : decode cX11_card 25 = .ok (.bipush 6, 2) := by decide +kernel
theorem dX11_card_27 : decode cX11_card 27 = .ok (.iload_n 1, 1) := by decide +kernel
theorem dX11_card_28 : decode cX11_card 28 = .ok (.imul, 1) := by decide +kernel
theorem dX11_card_29 : decode cX11_card 29 = .ok (.iload_n 2, 1) := by decide +kernel
theorem dX11_card_30 : decode cX11_card 30 = .ok (.iadd, 1) := by decide +kernel
theorem dX11_card_31 : decode cX11_card 31 = .ok (.iaload, 1) := by decide +kernel
theorem dX11_card_32 : decode cX11_card 32 = .ok (.invokevirtual 87, 3) := by decide +kernel
theorem dX11_card_35 : decode cX11_card 35 = .ok (.goto 4, 3) := by decide +kernel
theorem dX11_card_38 : decode cX11_card 38 = .ok (.iconst (-1), 1) := by decide +kernel
theorem dX11_card_39 : decode cX11_card 39 = .ok (.ireturn, 1) := by decide +kernel
theorem dX11_mark_0 : decode cX11_mark 0 = .ok (.aload_n 0, 1) := by decide +kernel
theorem dX11_mark_1 : decode cX11_mark 1 = .ok (.iload_n 1, 1) := by decide +kernel
theorem dX11_mark_2 : decode cX11_mark 2 = .ok (.invokevirtual 152, 3) := by decide +kernel
theorem dX11_mark_5 : decode cX11_mark 5 = .ok (.ifCond .eq 15, 3) := by decide +kernel
theorem dX11_mark_8 : decode cX11_mark 8 = .ok (.iload_n 2, 1) := by decide +kernel
theorem dX11_mark_9 : decode cX11_mark 9 = .ok (.i2l, 1) := by decide +kernel
theorem dX11_mark_10 : decode cX11_mark 10 = .ok (.lconst 1, 1) := by decide +kernel
theorem dX11_mark_11 : decode cX11_mark 11 = .ok (.ldc2_w 67, 3) := by decide +kernel
theorem dX11_mark_14 : decode cX11_mark 14 = .ok (.invokestatic 69, 3) := by decide +kernel
theorem dX11_mark_17 : decode cX11_mark 17 = .ok (.ifCond .ne 5, 3) := by decide +kernel
theorem dX11_mark_20 : decode cX11_mark 20 = .ok (.iconst (-1), 1) := by decide +kernel
theorem dX11_mark_21 : decode cX11_mark 21 = .ok (.ireturn, 1) := by decide +kernel
theorem dX11_mark_22 : decode cX11_mark 22 = .ok (.aload_n 0, 1) := by decide +kernel
theorem dX11_mark_23 : decode cX11_mark 23 = .ok (.getfield 26, 3) := by decide +kernel
theorem dX11_mark_26 : decode cX11_mark 26 = .ok (.iload_n 1, 1) := by decide +kernel
theorem dX11_mark_27 : decode cX11_mark 27 = .ok (.iaload, 1) := by decide +kernel
theorem dX11_mark_28 : decode cX11_mark 28 = .ok (.iload_n 2, 1) := by decide +kernel
theorem dX11_mark_29 : decode cX11_mark 29 = .ok (.invokestatic 130, 3) := by decide +kernel
theorem dX11_mark_32 : decode cX11_mark 32 = .ok (.ifCond .ne 9, 3) := by decide +kernel
theorem dX11_mark_35 : decode cX11_mark 35 = .ok (.aload_n 0, 1) := by decide +kernel
theorem dX11_mark_36 : decode cX11_mark 36 = .ok (.iconst 3, 1) := by decide +kernel
theorem dX11_mark_37 : decode cX11_mark 37 = .ok (.invokevirtual 79, 3) := by decide +kernel
theorem dX11_mark_40 : decode cX11_mark 40 = .ok (.ireturn, 1) := by decide +kernel
theorem dX11_mark_41 : decode cX11_mark 41 = .ok (.aload_n 0, 1) := by decide +kernel
theorem dX11_mark_42 : decode cX11_mark 42 = .ok (.getfield 38, 3) := by decide +kernel
theorem dX11_mark_45 : decode cX11_mark 45 = .ok (.iload_n 1, 1) := by decide +kernel
theorem dX11_mark_46 : decode cX11_mark 46 = .ok (.iaload, 1) := by decide +kernel
theorem dX11_mark_47 : decode cX11_mark 47 = .ok (.istore_n 3, 1) := by decide +kernel
theorem dX11_mark_48 : decode cX11_mark 48 = .ok (.iload_n 2, 1) := by decide +kernel
theorem dX11_mark_49 : decode cX11_mark 49 = .ok (.iconst 1, 1) := by decide +kernel
theorem dX11_mark_50 : decode cX11_mark 50 = .ok (.if_icmp .ne 11, 3) := by decide +kernel
theorem dX11_mark_53 : decode cX11_mark 53 = .ok (.bipush 6, 2) := by decide +kernel
theorem dX11_mark_55 : decode cX11_mark 55 = .ok (.iload_n 3, 1) := by decide +kernel
theorem dX11_mark_56 : decode cX11_mark 56 = .ok (.invokestatic 133, 3) := by decide +kernel
theorem dX11_mark_59 : decode cX11_mark 59 = .ok (.isub, 1) := by decide +kernel
theorem dX11_mark_60 : decode cX11_mark 60 = .ok (.ireturn, 1) := by decide +kernel
theorem dX11_mark_61 : decode cX11_mark 61 = .ok (.iload_n 2, 1) := by decide +kernel
theorem dX11_mark_62 : decode cX11_mark 62 = .ok (.iconst 2, 1) := by decide +kernel
theorem dX11_mark_63 : decode cX11_mark 63 = .ok (.if_icmp .ne 15, 3) := by decide +kernel
theorem dX11_mark_66 : decode cX11_mark 66 = .ok (.iconst 2, 1) := by decide +kernel
theorem dX11_mark_67 : decode cX11_mark 67 = .ok (.aload_n 0, 1) := by decide +kernel
theorem dX11_mark_68 : decode cX11_mark 68 = .ok (.getfield 38, 3) := by decide +kernel
theorem dX11_mark_71 : decode cX11_mark 71 = .ok (.bipush 6, 2) := by decide +kernel
theorem dX11_mark_73 : decode cX11_mark 73 = .ok (.iaload, 1) := by decide +kernel
theorem dX11_mark_74 : decode cX11_mark 74 = .ok (.iconst 3, 1) := by decide +kernel
theorem dX11_mark_75 : decode cX11_mark 75 = .ok (.irem, 1) := by decide +kernel
theorem dX11_mark_76 : decode cX11_mark 76 = .ok (.isub, 1) := by decide +kernel
theorem dX11_mark_77 : decode cX11_mark 77 = .ok (.ireturn, 1) := by decide +kernel
theorem dX11_mark_78 : decode cX11_mark 78 = .ok (.iload_n 2, 1) := by decide +kernel
theorem dX11_mark_79 : decode cX11_mark 79 = .ok (.iconst 3, 1) := by decide +kernel
theorem dX11_mark_80 : decode cX11_mark 80 = .ok (.if_icmp .ne 36, 3) := by decide +kernel
theorem dX11_mark_83 : decode cX11_mark 83 = .ok (.iload_n 3, 1) := by decide +kernel
theorem dX11_mark_84 : decode cX11_mark 84 = .ok (.bipush 7, 2) := by decide +kernel
theorem dX11_mark_86 : decode cX11_mark 86 = .ok (.iand, 1) := by decide +kernel
theorem dX11_mark_87 : decode cX11_mark 87 = .ok (.invokestatic 133, 3) := by decide +kernel
theorem dX11_mark_90 : decode cX11_mark 90 = .ok (.iconst 1, 1) := by decide +kernel
theorem dX11_mark_91 : decode cX11_mark 91 = .ok (.if_icmp .le 7, 3) := by decide +kernel
theorem dX11_mark_94 : decode cX11_mark 94 = .ok (.iconst 1, 1) := by decide +kernel
theorem dX11_mark_95 : decode cX11_mark 95 = .ok (.goto 4, 3) := by decide +kernel
theorem dX11_mark_98 : decode cX11_mark 98 = .ok (.iconst 0, 1) := by decide +kernel
theorem dX11_mark_99 : decode cX11_mark 99 = .ok (.iload_n 3, 1) := by decide +kernel
theorem dX11_mark_100 : decode cX11_mark 100 = .ok (.iconst 3, 1) := by decide +kernel
theorem dX11_mark_101 : decode cX11_mark 101 = .ok (.ishr, 1) := by decide +kernel
theorem dX11_mark_102 : decode cX11_mark 102 = .ok (.invokestatic 133, 3) := by decide +kernel
theorem dX11_mark_105 : decode cX11_mark 105 = .ok (.iconst 1, 1) := by decide +kernel
theorem dX11_mark_106 : decode cX11_mark 106 = .ok (.if_icmp .le 7, 3) := by decide +kernel
theorem dX11_mark_109 : decode cX11_mark 109 = .ok (.iconst 1, 1) := by decide +kernel
theorem dX11_mark_110 : decode cX11_mark 110 = .ok (.goto 4, 3) := by decide +kernel
theorem dX11_mark_113 : decode cX11_mark 113 = .ok (.iconst 0, 1) := by decide +kernel
theorem dX11_mark_114 : decode cX11_mark 114 = .ok (.iadd, 1) := by decide +kernel
theorem dX11_mark_115 : decode cX11_mark 115 = .ok (.ireturn, 1) := by decide +kernel
theorem dX11_mark_116 : decode cX11_mark 116 = .ok (.iload_n 2, 1) := by decide +kernel
theorem dX11_mark_117 : decode cX11_mark 117 = .ok (.iconst 4, 1) := by decide +kernel
theorem dX11_mark_118 : decode cX11_mark 118 = .ok (.if_icmp .ne 11, 3) := by decide +kernel
theorem dX11_mark_121 : decode cX11_mark 121 = .ok (.aload_n 0, 1) := by decide +kernel
theorem dX11_mark_122 : decode cX11_mark 122 = .ok (.getfield 38, 3) := by decide +kernel
theorem dX11_mark_125 : decode cX11_mark 125 = .ok (.bipush 7, 2) := by decide +kernel
end
section
theorem dX11_mark_127 : decode cX11_mark 127 = .ok (.iaload, 1) := by decide +kernel
theorem dX11_mark_128 : decode cX11_mark 128 = .ok (.ireturn, 1) := by decide +kernel
theorem dX11_mark_129 : decode cX11_mark 129 = .ok (.iconst 0, 1) := by decide +kernel
theorem dX11_mark_130 : decode cX11_mark 130 = .ok (.istore 4, 2) := by decide +kernel
theorem dX11_mark_132 : decode cX11_mark 132 = .ok (.iconst 0, 1) := by decide +kernel
theorem dX11_mark_133 : decode cX11_mark 133 = .ok (.istore 5, 2) := by decide +kernel
theorem dX11_mark_135 : decode cX11_mark 135 = .ok (.iload 5, 2) := by decide +kernel
theorem dX11_mark_137 : decode cX11_mark 137 = .ok (.bipush 6, 2) := by decide +kernel
theorem dX11_mark_139 : decode cX11_mark 139 = .ok (.if_icmp .ge 46, 3) := by decide +kernel
theorem dX11_mark_142 : decode cX11_mark 142 = .ok (.iload 4, 2) := by decide +kernel
theorem dX11_mark_144 : decode cX11_mark 144 = .ok (.aload_n 0, 1) := by decide +kernel
theorem dX11_mark_145 : decode cX11_mark 145 = .ok (.iload_n 1, 1) := by decide +kernel
theorem dX11_mark_146 : decode cX11_mark 146 = .ok (.iconst 1, 1) := by decide +kernel
theorem dX11_mark_147 : decode cX11_mark 147 = .ok (.aload_n 0, 1) := by decide +kernel
theorem dX11_mark_148 : decode cX11_mark 148 = .ok (.getfield 29, 3) := by decide +kernel
theorem dX11_mark_151 : decode cX11_mark 151 = .ok (.bipush 6, 2) := by decide +kernel
theorem dX11_mark_153 : decode cX11_mark 153 = .ok (.iload_n 1, 1) := by decide +kernel
theorem dX11_mark_154 : decode cX11_mark 154 = .ok (.imul, 1) := by decide +kernel
theorem dX11_mark_155 : decode cX11_mark 155 = .ok (.iload 5, 2) := by decide +kernel
theorem dX11_mark_157 : decode cX11_mark 157 = .ok (.iadd, 1) := by decide +kernel
theorem dX11_mark_158 : decode cX11_mark 158 = .ok (.iaload, 1) := by decide +kernel
theorem dX11_mark_159 : decode cX11_mark 159 = .ok (.bipush 12, 2) := by decide +kernel
theorem dX11_mark_161 : decode cX11_mark 161 = .ok (.irem, 1) := by decide +kernel
theorem dX11_mark_162 : decode cX11_mark 162 = .ok (.iconst 1, 1) := by decide +kernel
theorem dX11_mark_163 : decode cX11_mark 163 = .ok (.iadd, 1) := by decide +kernel
theorem dX11_mark_164 : decode cX11_mark 164 = .ok (.ishl, 1) := by decide +kernel
theorem dX11_mark_165 : decode cX11_mark 165 = .ok (.invokevirtual 146, 3) := by decide +kernel
theorem dX11_mark_168 : decode cX11_mark 168 = .ok (.ifCond .eq 7, 3) := by decide +kernel
theorem dX11_mark_171 : decode cX11_mark 171 = .ok (.iconst 1, 1) := by decide +kernel
theorem dX11_mark_172 : decode cX11_mark 172 = .ok (.goto 4, 3) := by decide +kernel
theorem dX11_mark_175 : decode cX11_mark 175 = .ok (.iconst 0, 1) := by decide +kernel
theorem dX11_mark_176 : decode cX11_mark 176 = .ok (.iadd, 1) := by decide +kernel
theorem dX11_mark_177 : decode cX11_mark 177 = .ok (.istore 4, 2) := by decide +kernel
theorem dX11_mark_179 : decode cX11_mark 179 = .ok (.iinc 5 1, 3) := by decide +kernel
theorem dX11_mark_182 : decode cX11_mark 182 = .ok (.goto (-47), 3) := by decide +kernel
theorem dX11_mark_185 : decode cX11_mark 185 = .ok (.iload 4, 2) := by decide +kernel
theorem dX11_mark_187 : decode cX11_mark 187 = .ok (.ireturn, 1) := by decide +kernel
theorem dX11_copies_0 : decode cX11_copies 0 = .ok (.iconst 0, 1) := by decide +kernel
theorem dX11_copies_1 : decode cX11_copies 1 = .ok (.istore 4, 2) := by decide +kernel
theorem dX11_copies_3 : decode cX11_copies 3 = .ok (.iload 4, 2) := by decide +kernel
theorem dX11_copies_5 : decode cX11_copies 5 = .ok (.iload_n 3, 1) := by decide +kernel
theorem dX11_copies_6 : decode cX11_copies 6 = .ok (.if_icmp .ge 27, 3) := by decide +kernel
theorem dX11_copies_9 : decode cX11_copies 9 = .ok (.aload_n 0, 1) := by decide +kernel
theorem dX11_copies_10 : decode cX11_copies 10 = .ok (.getfield 38, 3) := by decide +kernel
theorem dX11_copies_13 : decode cX11_copies 13 = .ok (.iload_n 2, 1) := by decide +kernel
theorem dX11_copies_14 : decode cX11_copies 14 = .ok (.iload 4, 2) := by decide +kernel
theorem dX11_copies_16 : decode cX11_copies 16 = .ok (.iadd, 1) := by decide +kernel
theorem dX11_copies_17 : decode cX11_copies 17 = .ok (.aload_n 0, 1) := by decide +kernel
theorem dX11_copies_18 : decode cX11_copies 18 = .ok (.getfield 38, 3) := by decide +kernel
theorem dX11_copies_21 : decode cX11_copies 21 = .ok (.iload_n 1, 1) := by decide +kernel
theorem dX11_copies_22 : decode cX11_copies 22 = .ok (.iload 4, 2) := by decide +kernel
theorem dX11_copies_24 : decode cX11_copies 24 = .ok (.iadd, 1) := by decide +kernel
theorem dX11_copies_25 : decode cX11_copies 25 = .ok (.iaload, 1) := by decide +kernel
theorem dX11_copies_26 : decode cX11_copies 26 = .ok (.iastore, 1) := by decide +kernel
theorem dX11_copies_27 : decode cX11_copies 27 = .ok (.iinc 4 1, 3) := by decide +kernel
theorem dX11_copies_30 : decode cX11_copies 30 = .ok (.goto (-27), 3) := by decide +kernel
theorem dX11_copies_33 : decode cX11_copies 33 = .ok (.return_, 1) := by decide +kernel
theorem dX11_known_0 : decode cX11_known 0 = .ok (.aload_n 0, 1) := by decide +kernel
theorem dX11_known_1 : decode cX11_known 1 = .ok (.dup, 1) := by decide +kernel
theorem dX11_known_2 : decode cX11_known 2 = .ok (.getfield 127, 3) := by decide +kernel
theorem dX11_known_5 : decode cX11_known 5 = .ok (.iconst 1, 1) := by decide +kernel
theorem dX11_known_6 : decode cX11_known 6 = .ok (.iadd, 1) := by decide +kernel
theorem dX11_known_7 : decode cX11_known 7 = .ok (.putfield 127, 3) := by decide +kernel
theorem dX11_known_10 : decode cX11_known 10 = .ok (.aload_n 0, 1) := by decide +kernel
theorem dX11_known_11 : decode cX11_known 11 = .ok (.iconst 0, 1) := by decide +kernel
theorem dX11_known_12 : decode cX11_known 12 = .ok (.aload_n 0, 1) := by decide +kernel
theorem dX11_known_13 : decode cX11_known 13 = .ok (.getfield 127, 3) := by decide +kernel
theorem dX11_known_16 : decode cX11_known 16 = .ok (.bipush 8, 2) := by decide +kernel
theorem dX11_known_18 : decode cX11_known 18 = .ok (.imul, 1) := by decide +kernel
theorem dX11_known_19 : decode cX11_known 19 = .ok (.bipush 8, 2) := by decide +kernel
theorem dX11_known_21 : decode cX11_known 21 = .ok (.invokevirtual 160, 3) := by decide +kernel
theorem dX11_known_24 : decode cX11_known 24 = .ok (.return_, 1) := by decide +kernel
theorem dX11_call_0 : decode cX11_call 0 = .ok (.iload_n 1, 1) := by decide +kernel
theorem dX11_call_1 : decode cX11_call 1 = .ok (.i2l, 1) := by decide +kernel
theorem dX11_call_2 : decode cX11_call 2 = .ok (.lconst 1, 1) := by decide +kernel
theorem dX11_call_3 : decode cX11_call 3 = .ok (.ldc2_w 105, 3) := by decide +kernel
theorem dX11_call_6 : decode cX11_call 6 = .ok (.invokestatic 69, 3) := by decide +kernel
theorem dX11_call_9 : decode cX11_call 9 = .ok (.ifCond .ne 5, 3) := by decide +kernel
theorem dX11_call_12 : decode cX11_call 12 = .ok (.iconst (-1), 1) := by decide +kernel
theorem dX11_call_13 : decode cX11_call 13 = .ok (.ireturn, 1) := by decide +kernel
theorem dX11_call_14 : decode cX11_call 14 = .ok (.aload_n 0, 1) := by decide +kernel
theorem dX11_call_15 : decode cX11_call 15 = .ok (.getfield 124, 3) := by decide +kernel
theorem dX11_call_18 : decode cX11_call 18 = .ok (.ifCond .eq 16, 3) := by decide +kernel
theorem dX11_call_21 : decode cX11_call 21 = .ok (.aload_n 0, 1) := by decide +kernel
theorem dX11_call_22 : decode cX11_call 22 = .ok (.getfield 38, 3) := by decide +kernel
theorem dX11_call_25 : decode cX11_call 25 = .ok (.iconst 5, 1) := by decide +kernel
theorem dX11_call_26 : decode cX11_call 26 = .ok (.iaload, 1) := by decide +kernel
theorem dX11_call_27 : decode cX11_call 27 = .ok (.iload_n 1, 1) := by decide +kernel
theorem dX11_call_28 : decode cX11_call 28 = .ok (.invokestatic 139, 3) := by decide +kernel
theorem dX11_call_31 : decode cX11_call 31 = .ok (.ifCond .ne 6, 3) := by decide +kernel
theorem dX11_call_34 : decode cX11_call 34 = .ok (.bipush (-4), 2) := by decide +kernel
theorem dX11_call_36 : decode cX11_call 36 = .ok (.ireturn, 1) := by decide +kernel
theorem dX11_call_37 : decode cX11_call 37 = .ok (.aload_n 0, 1) := by decide +kernel
theorem dX11_call_38 : decode cX11_call 38 = .ok (.getfield 127, 3) := by decide +kernel
theorem dX11_call_41 : decode cX11_call 41 = .ok (.bipush 40, 2) := by decide +kernel
theorem dX11_call_43 : decode cX11_call 43 = .ok (.if_icmp .ne 6, 3) := by decide +kernel
theorem dX11_call_46 : decode cX11_call 46 = .ok (.bipush (-2), 2) := by decide +kernel
theorem dX11_call_48 : decode cX11_call 48 = .ok (.ireturn, 1) := by decide +kernel
theorem dX11_call_49 : decode cX11_call 49 = .ok (.aload_n 0, 1) := by decide +kernel
theorem dX11_call_50 : decode cX11_call 50 = .ok (.invokevirtual 164, 3) := by decide +kernel
theorem dX11_call_53 : decode cX11_call 53 = .ok (.aload_n 0, 1) := by decide +kernel
theorem dX11_call_54 : decode cX11_call 54 = .ok (.iconst 0, 1) := by decide +kernel
theorem dX11_call_55 : decode cX11_call 55 = .ok (.iload_n 1, 1) := by decide +kernel
theorem dX11_call_56 : decode cX11_call 56 = .ok (.invokevirtual 167, 3) := by decide +kernel
theorem dX11_call_59 : decode cX11_call 59 = .ok (.ireturn, 1) := by decide +kernel
theorem dX11_rub_0 : decode cX11_rub 0 = .ok (.aload_n 0, 1) := by decide +kernel
theorem dX11_rub_1 : decode cX11_rub 1 = .ok (.iload_n 1, 1) := by decide +kernel
theorem dX11_rub_2 : decode cX11_rub 2 = .ok (.invokevirtual 152, 3) := by decide +kernel
theorem dX11_rub_5 : decode cX11_rub 5 = .ok (.ifCond .eq 15, 3) := by decide +kernel
theorem dX11_rub_8 : decode cX11_rub 8 = .ok (.iload_n 2, 1) := by decide +kernel
theorem dX11_rub_9 : decode cX11_rub 9 = .ok (.i2l, 1) := by decide +kernel
theorem dX11_rub_10 : decode cX11_rub 10 = .ok (.lconst 0, 1) := by decide +kernel
theorem dX11_rub_11 : decode cX11_rub 11 = .ok (.ldc2_w 67, 3) := by decide +kernel
theorem dX11_rub_14 : decode cX11_rub 14 = .ok (.invokestatic 69, 3) := by decide +kernel
theorem dX11_rub_17 : decode cX11_rub 17 = .ok (.ifCond .ne 5, 3) := by decide +kernel
theorem dX11_rub_20 : decode cX11_rub 20 = .ok (.iconst (-1), 1) := by decide +kernel
theorem dX11_rub_21 : decode cX11_rub 21 = .ok (.ireturn, 1) := by decide +kernel
theorem dX11_rub_22 : decode cX11_rub 22 = .ok (.aload_n 0, 1) := by decide +kernel
theorem dX11_rub_23 : decode cX11_rub 23 = .ok (.getfield 127, 3) := by decide +kernel
theorem dX11_rub_26 : decode cX11_rub 26 = .ok (.bipush 40, 2) := by decide +kernel
theorem dX11_rub_28 : decode cX11_rub 28 = .ok (.if_icmp .ne 6, 3) := by decide +kernel
theorem dX11_rub_31 : decode cX11_rub 31 = .ok (.bipush (-2), 2) := by decide +kernel
theorem dX11_rub_33 : decode cX11_rub 33 = .ok (.ireturn, 1) := by decide +kernel
theorem dX11_rub_34 : decode cX11_rub 34 = .ok (.aload_n 0, 1) := by decide +kernel
theorem dX11_rub_35 : decode cX11_rub 35 = .ok (.invokevirtual 164, 3) := by decide +kernel
theorem dX11_rub_38 : decode cX11_rub 38 = .ok (.aload_n 0, 1) := by decide +kernel
theorem dX11_rub_39 : decode cX11_rub 39 = .ok (.getfield 38, 3) := by decide +kernel
theorem dX11_rub_42 : decode cX11_rub 42 = .ok (.iload_n 1, 1) := by decide +kernel
theorem dX11_rub_43 : decode cX11_rub 43 = .ok (.dup2, 1) := by decide +kernel
theorem dX11_rub_44 : decode cX11_rub 44 = .ok (.iaload, 1) := by decide +kernel
theorem dX11_rub_45 : decode cX11_rub 45 = .ok (.iconst 1, 1) := by decide +kernel
theorem dX11_rub_46 : decode cX11_rub 46 = .ok (.iload_n 2, 1) := by decide +kernel
theorem dX11_rub_47 : decode cX11_rub 47 = .ok (.ishl, 1) := by decide +kernel
theorem dX11_rub_48 : decode cX11_rub 48 = .ok (.ixor, 1) := by decide +kernel
theorem dX11_rub_49 : decode cX11_rub 49 = .ok (.iastore, 1) := by decide +kernel
theorem dX11_rub_50 : decode cX11_rub 50 = .ok (.aload_n 0, 1) := by decide +kernel
theorem dX11_rub_51 : decode cX11_rub 51 = .ok (.getfield 38, 3) := by decide +kernel
theorem dX11_rub_54 : decode cX11_rub 54 = .ok (.iload_n 1, 1) := by decide +kernel
theorem dX11_rub_55 : decode cX11_rub 55 = .ok (.iaload, 1) := by decide +kernel
theorem dX11_rub_56 : decode cX11_rub 56 = .ok (.ireturn, 1) := by decide +kernel
theorem dX11_undo_0 : decode cX11_undo 0 = .ok (.iload_n 1, 1) := by decide +kernel
theorem dX11_undo_1 : decode cX11_undo 1 = .ok (.i2l, 1) := by decide +kernel
theorem dX11_undo_2 : decode cX11_undo 2 = .ok (.lconst 0, 1) := by decide +kernel
theorem dX11_undo_3 : decode cX11_undo 3 = .ok (.aload_n 0, 1) := by decide +kernel
theorem dX11_undo_4 : decode cX11_undo 4 = .ok (.getfield 127, 3) := by decide +kernel
theorem dX11_undo_7 : decode cX11_undo 7 = .ok (.i2l, 1) := by decide +kernel
theorem dX11_undo_8 : decode cX11_undo 8 = .ok (.invokestatic 69, 3) := by decide +kernel
theorem dX11_undo_11 : decode cX11_undo 11 = .ok (.ifCond .ne 5, 3) := by decide +kernel
theorem dX11_undo_14 : decode cX11_undo 14 = .ok (.iconst (-1), 1) := by decide +kernel
theorem dX11_undo_15 : decode cX11_undo 15 = .ok (.ireturn, 1) := by decide +kernel
theorem dX11_undo_16 : decode cX11_undo 16 = .ok (.aload_n 0, 1) := by decide +kernel
theorem dX11_undo_17 : decode cX11_undo 17 = .ok (.getfield 127, 3) := by decide +kernel
theorem dX11_undo_20 : decode cX11_undo 20 = .ok (.iload_n 1, 1) := by decide +kernel
theorem dX11_undo_21 : decode cX11_undo 21 = .ok (.isub, 1) := by decide +kernel
theorem dX11_undo_22 : decode cX11_undo 22 = .ok (.istore_n 2, 1) := by decide +kernel
theorem dX11_undo_23 : decode cX11_undo 23 = .ok (.iload_n 2, 1) := by decide +kernel
theorem dX11_undo_24 : decode cX11_undo 24 = .ok (.ifCond .le 21, 3) := by decide +kernel
theorem dX11_undo_27 : decode cX11_undo 27 = .ok (.aload_n 0, 1) := by decide +kernel
theorem dX11_undo_28 : decode cX11_undo 28 = .ok (.iload_n 1, 1) := by decide +kernel
theorem dX11_undo_29 : decode cX11_undo 29 = .ok (.iconst 1, 1) := by decide +kernel
theorem dX11_undo_30 : decode cX11_undo 30 = .ok (.iadd, 1) := by decide +kernel
theorem dX11_undo_31 : decode cX11_undo 31 = .ok (.bipush 8, 2) := by decide +kernel
theorem dX11_undo_33 : decode cX11_undo 33 = .ok (.imul, 1) := by decide +kernel
theorem dX11_undo_34 : decode cX11_undo 34 = .ok (.iconst 0, 1) := by decide +kernel
theorem dX11_undo_35 : decode cX11_undo 35 = .ok (.bipush 8, 2) := by decide +kernel
theorem dX11_undo_37 : decode cX11_undo 37 = .ok (.invokevirtual 160, 3) := by decide +kernel
theorem dX11_undo_40 : decode cX11_undo 40 = .ok (.aload_n 0, 1) := by decide +kernel
theorem dX11_undo_41 : decode cX11_undo 41 = .ok (.iload_n 1, 1) := by decide +kernel
theorem dX11_undo_42 : decode cX11_undo 42 = .ok (.putfield 127, 3) := by decide +kernel
theorem dX11_undo_45 : decode cX11_undo 45 = .ok (.iload_n 2, 1) := by decide +kernel
theorem dX11_undo_46 : decode cX11_undo 46 = .ok (.ireturn, 1) := by decide +kernel
theorem dX11_keep_0 : decode cX11_keep 0 = .ok (.iload_n 1, 1) := by decide +kernel
theorem dX11_keep_1 : decode cX11_keep 1 = .ok (.i2l, 1) := by decide +kernel
theorem dX11_keep_2 : decode cX11_keep 2 = .ok (.lconst 0, 1) := by decide +kernel
theorem dX11_keep_3 : decode cX11_keep 3 = .ok (.ldc2_w 170, 3) := by decide +kernel
theorem dX11_keep_6 : decode cX11_keep 6 = .ok (.invokestatic 69, 3) := by decide +kernel
theorem dX11_keep_9 : decode cX11_keep 9 = .ok (.ifCond .ne 5, 3) := by decide +kernel
theorem dX11_keep_12 : decode cX11_keep 12 = .ok (.iconst (-1), 1) := by decide +kernel
theorem dX11_keep_13 : decode cX11_keep 13 = .ok (.ireturn, 1) := by decide +kernel
theorem dX11_keep_14 : decode cX11_keep 14 = .ok (.aload_n 0, 1) := by decide +kernel
theorem dX11_keep_15 : decode cX11_keep 15 = .ok (.getfield 124, 3) := by decide +kernel
theorem dX11_keep_18 : decode cX11_keep 18 = .ok (.ifCond .ne 6, 3) := by decide +kernel
theorem dX11_keep_21 : decode cX11_keep 21 = .ok (.bipush (-4), 2) := by decide +kernel
theorem dX11_keep_23 : decode cX11_keep 23 = .ok (.ireturn, 1) := by decide +kernel
theorem dX11_keep_24 : decode cX11_keep 24 = .ok (.aload_n 0, 1) := by decide +kernel
theorem dX11_keep_25 : decode cX11_keep 25 = .ok (.iconst 0, 1) := by decide +kernel
theorem dX11_keep_26 : decode cX11_keep 26 = .ok (.sipush 328, 3) := by decide +kernel
theorem dX11_keep_29 : decode cX11_keep 29 = .ok (.iload_n 1, 1) := by decide +kernel
theorem dX11_keep_30 : decode cX11_keep 30 = .ok (.iconst 1, 1) := by decide +kernel
theorem dX11_keep_31 : decode cX11_keep 31 = .ok (.iadd, 1) := by decide +kernel
theorem dX11_keep_32 : decode cX11_keep 32 = .ok (.imul, 1) := by decide +kernel
theorem dX11_keep_33 : decode cX11_keep 33 = .ok (.sipush 328, 3) := by decide +kernel
theorem dX11_keep_36 : decode cX11_keep 36 = .ok (.invokevirtual 160, 3) := by decide +kernel
theorem dX11_keep_39 : decode cX11_keep 39 = .ok (.aload_n 0, 1) := by decide +kernel
theorem dX11_keep_40 : decode cX11_keep 40 = .ok (.getfield 41, 3) := by decide +kernel
theorem dX11_keep_43 : decode cX11_keep 43 = .ok (.iload_n 1, 1) := by decide +kernel
theorem dX11_keep_44 : decode cX11_keep 44 = .ok (.aload_n 0, 1) := by decide +kernel
theorem dX11_keep_45 : decode cX11_keep 45 = .ok (.getfield 127, 3) := by decide +kernel
theorem dX11_keep_48 : decode cX11_keep 48 = .ok (.iastore, 1) := by decide +kernel
theorem dX11_keep_49 : decode cX11_keep 49 = .ok (.aload_n 0, 1) := by decide +kernel
theorem dX11_keep_50 : decode cX11_keep 50 = .ok (.getfield 127, 3) := by decide +kernel
theorem dX11_keep_53 : decode cX11_keep 53 = .ok (.ireturn, 1) := by decide +kernel
theorem dX11_on_0 : decode cX11_on 0 = .ok (.iload_n 1, 1) := by decide +kernel
theorem dX11_on_1 : decode cX11_on 1 = .ok (.i2l, 1) := by decide +kernel
theorem dX11_on_2 : decode cX11_on 2 = .ok (.lconst 0, 1) := by decide +kernel
theorem dX11_on_3 : decode cX11_on 3 = .ok (.ldc2_w 170, 3) := by decide +kernel
theorem dX11_on_6 : decode cX11_on 6 = .ok (.invokestatic 69, 3) := by decide +kernel
theorem dX11_on_9 : decode cX11_on 9 = .ok (.ifCond .ne 5, 3) := by decide +kernel
theorem dX11_on_12 : decode cX11_on 12 = .ok (.iconst (-1), 1) := by decide +kernel
theorem dX11_on_13 : decode cX11_on 13 = .ok (.ireturn, 1) := by decide +kernel
theorem dX11_on_14 : decode cX11_on 14 = .ok (.aload_n 0, 1) := by decide +kernel
theorem dX11_on_15 : decode cX11_on 15 = .ok (.getfield 41, 3) := by decide +kernel
theorem dX11_on_18 : decode cX11_on 18 = .ok (.iload_n 1, 1) := by decide +kernel
theorem dX11_on_19 : decode cX11_on 19 = .ok (.iaload, 1) := by decide +kernel
theorem dX11_on_20 : decode cX11_on 20 = .ok (.ifCond .ge 9, 3) := by decide +kernel
theorem dX11_on_23 : decode cX11_on 23 = .ok (.aload_n 0, 1) := by decide +kernel
theorem dX11_on_24 : decode cX11_on 24 = .ok (.iconst 1, 1) := by decide +kernel
theorem dX11_on_25 : decode cX11_on 25 = .ok (.invokevirtual 79, 3) := by decide +kernel
theorem dX11_on_28 : decode cX11_on 28 = .ok (.ireturn, 1) := by decide +kernel
theorem dX11_on_29 : decode cX11_on 29 = .ok (.aload_n 0, 1) := by decide +kernel
theorem dX11_on_30 : decode cX11_on 30 = .ok (.sipush 328, 3) := by decide +kernel
theorem dX11_on_33 : decode cX11_on 33 = .ok (.iload_n 1, 1) := by decide +kernel
theorem dX11_on_34 : decode cX11_on 34 = .ok (.iconst 1, 1) := by decide +kernel
theorem dX11_on_35 : decode cX11_on 35 = .ok (.iadd, 1) := by decide +kernel
theorem dX11_on_36 : decode cX11_on 36 = .ok (.imul, 1) := by decide +kernel
theorem dX11_on_37 : decode cX11_on 37 = .ok (.iconst 0, 1) := by decide +kernel
theorem dX11_on_38 : decode cX11_on 38 = .ok (.sipush 328, 3) := by decide +kernel
theorem dX11_on_41 : decode cX11_on 41 = .ok (.invokevirtual 160, 3) := by decide +kernel
theorem dX11_on_44 : decode cX11_on 44 = .ok (.aload_n 0, 1) := by decide +kernel
theorem dX11_on_45 : decode cX11_on 45 = .ok (.aload_n 0, 1) := by decide +kernel
theorem dX11_on_46 : decode cX11_on 46 = .ok (.getfield 41, 3) := by decide +kernel
theorem dX11_on_49 : decode cX11_on 49 = .ok (.iload_n 1, 1) := by decide +kernel
theorem dX11_on_50 : decode cX11_on 50 = .ok (.iaload, 1) := by decide +kernel
theorem dX11_on_51 : decode cX11_on 51 = .ok (.putfield 127, 3) := by decide +kernel
theorem dX11_on_54 : decode cX11_on 54 = .ok (.aload_n 0, 1) := by decide +kernel
theorem dX11_on_55 : decode cX11_on 55 = .ok (.getfield 127, 3) := by decide +kernel
theorem dX11_on_58 : decode cX11_on 58 = .ok (.ireturn, 1) := by decide +kernel
theorem dX11_hears_0 : decode cX11_hears 0 = .ok (.aload_n 0, 1) := by decide +kernel
theorem dX11_hears_1 : decode cX11_hears 1 = .ok (.iload_n 1, 1) := by decide +kernel
theorem dX11_hears_2 : decode cX11_hears 2 = .ok (.invokevirtual 152, 3) := by decide +kernel
theorem dX11_hears_5 : decode cX11_hears 5 = .ok (.ifCond .eq 40, 3) := by decide +kernel
theorem dX11_hears_8 : decode cX11_hears 8 = .ok (.iload_n 2, 1) := by decide +kernel
theorem dX11_hears_9 : decode cX11_hears 9 = .ok (.i2l, 1) := by decide +kernel
theorem dX11_hears_10 : decode cX11_hears 10 = .ok (.lconst 1, 1) := by decide +kernel
theorem dX11_hears_11 : decode cX11_hears 11 = .ok (.ldc2_w 105, 3) := by decide +kernel
theorem dX11_hears_14 : decode cX11_hears 14 = .ok (.invokestatic 69, 3) := by decide +kernel
theorem dX11_hears_17 : decode cX11_hears 17 = .ok (.ifCond .eq 28, 3) := by decide +kernel
theorem dX11_hears_20 : decode cX11_hears 20 = .ok (.iload_n 3, 1) := by decide +kernel
theorem dX11_hears_21 : decode cX11_hears 21 = .ok (.i2l, 1) := by decide +kernel
theorem dX11_hears_22 : decode cX11_hears 22 = .ok (.lconst 0, 1) := by decide +kernel
theorem dX11_hears_23 : decode cX11_hears 23 = .ok (.ldc2_w 105, 3) := by decide +kernel
theorem dX11_hears_26 : decode cX11_hears 26 = .ok (.invokestatic 69, 3) := by decide +kernel
theorem dX11_hears_29 : decode cX11_hears 29 = .ok (.ifCond .eq 16, 3) := by decide +kernel
theorem dX11_hears_32 : decode cX11_hears 32 = .ok (.iload 4, 2) := by decide +kernel
theorem dX11_hears_34 : decode cX11_hears 34 = .ok (.i2l, 1) := by decide +kernel
theorem dX11_hears_35 : decode cX11_hears 35 = .ok (.lconst 0, 1) := by decide +kernel
theorem dX11_hears_36 : decode cX11_hears 36 = .ok (.ldc2_w 172, 3) := by decide +kernel
theorem dX11_hears_39 : decode cX11_hears 39 = .ok (.invokestatic 69, 3) := by decide +kernel
theorem dX11_hears_42 : decode cX11_hears 42 = .ok (.ifCond .ne 5, 3) := by decide +kernel
theorem dX11_hears_45 : decode cX11_hears 45 = .ok (.iconst (-1), 1) := by decide +kernel
theorem dX11_hears_46 : decode cX11_hears 46 = .ok (.ireturn, 1) := by decide +kernel
theorem dX11_hears_47 : decode cX11_hears 47 = .ok (.aload_n 0, 1) := by decide +kernel
theorem dX11_hears_48 : decode cX11_hears 48 = .ok (.getfield 26, 3) := by decide +kernel
theorem dX11_hears_51 : decode cX11_hears 51 = .ok (.iload_n 1, 1) := by decide +kernel
theorem dX11_hears_52 : decode cX11_hears 52 = .ok (.iaload, 1) := by decide +kernel
theorem dX11_hears_53 : decode cX11_hears 53 = .ok (.iload_n 2, 1) := by decide +kernel
theorem dX11_hears_54 : decode cX11_hears 54 = .ok (.iload_n 3, 1) := by decide +kernel
theorem dX11_hears_55 : decode cX11_hears 55 = .ok (.iload 4, 2) := by decide +kernel
theorem dX11_hears_57 : decode cX11_hears 57 = .ok (.invokestatic 142, 3) := by decide +kernel
theorem dX11_hears_60 : decode cX11_hears 60 = .ok (.ireturn, 1) := by decide +kernel
theorem dX11_run_0 : decode cX11_run 0 = .ok (.aload_n 0, 1) := by decide +kernel
theorem dX11_run_1 : decode cX11_run 1 = .ok (.getfield 124, 3) := by decide +kernel
theorem dX11_run_4 : decode cX11_run 4 = .ok (.ifCond .ne 6, 3) := by decide +kernel
theorem dX11_run_7 : decode cX11_run 7 = .ok (.bipush (-4), 2) := by decide +kernel
theorem dX11_run_9 : decode cX11_run 9 = .ok (.ireturn, 1) := by decide +kernel
theorem dX11_run_10 : decode cX11_run 10 = .ok (.aload_n 0, 1) := by decide +kernel
theorem dX11_run_11 : decode cX11_run 11 = .ok (.iload_n 1, 1) := by decide +kernel
theorem dX11_run_12 : decode cX11_run 12 = .ok (.invokevirtual 75, 3) := by decide +kernel
theorem dX11_run_15 : decode cX11_run 15 = .ok (.ifCond .ne 5, 3) := by decide +kernel
theorem dX11_run_18 : decode cX11_run 18 = .ok (.iconst (-1), 1) := by decide +kernel
theorem dX11_run_19 : decode cX11_run 19 = .ok (.ireturn, 1) := by decide +kernel
theorem dX11_run_20 : decode cX11_run 20 = .ok (.aload_n 0, 1) := by decide +kernel
theorem dX11_run_21 : decode cX11_run 21 = .ok (.getfield 7, 3) := by decide +kernel
theorem dX11_run_24 : decode cX11_run 24 = .ok (.iload_n 1, 1) := by decide +kernel
theorem dX11_run_25 : decode cX11_run 25 = .ok (.iaload, 1) := by decide +kernel
theorem dX11_run_26 : decode cX11_run 26 = .ok (.ifCond .ge 9, 3) := by decide +kernel
theorem dX11_run_29 : decode cX11_run 29 = .ok (.aload_n 0, 1) := by decide +kernel
theorem dX11_run_30 : decode cX11_run 30 = .ok (.iconst 1, 1) := by decide +kernel
theorem dX11_run_31 : decode cX11_run 31 = .ok (.invokevirtual 79, 3) := by decide +kernel
theorem dX11_run_34 : decode cX11_run 34 = .ok (.ireturn, 1) := by decide +kernel
theorem dX11_run_35 : decode cX11_run 35 = .ok (.aload_n 0, 1) := by decide +kernel
theorem dX11_run_36 : decode cX11_run 36 = .ok (.getfield 7, 3) := by decide +kernel
theorem dX11_run_39 : decode cX11_run 39 = .ok (.iload_n 1, 1) := by decide +kernel
theorem dX11_run_40 : decode cX11_run 40 = .ok (.iaload, 1) := by decide +kernel
theorem dX11_run_41 : decode cX11_run 41 = .ok (.bipush 12, 2) := by decide +kernel
theorem dX11_run_43 : decode cX11_run 43 = .ok (.if_icmp .le 9, 3) := by decide +kernel
theorem dX11_run_46 : decode cX11_run 46 = .ok (.aload_n 0, 1) := by decide +kernel
theorem dX11_run_47 : decode cX11_run 47 = .ok (.iconst 5, 1) := by decide +kernel
theorem dX11_run_48 : decode cX11_run 48 = .ok (.invokevirtual 79, 3) := by decide +kernel
theorem dX11_run_51 : decode cX11_run 51 = .ok (.ireturn, 1) := by decide +kernel
theorem dX11_run_52 : decode cX11_run 52 = .ok (.iconst 0, 1) := by decide +kernel
theorem dX11_run_53 : decode cX11_run 53 = .ok (.istore_n 2, 1) := by decide +kernel
theorem dX11_run_54 : decode cX11_run 54 = .ok (.iload_n 2, 1) := by decide +kernel
theorem dX11_run_55 : decode cX11_run 55 = .ok (.aload_n 0, 1) := by decide +kernel
theorem dX11_run_56 : decode cX11_run 56 = .ok (.getfield 7, 3) := by decide +kernel
theorem dX11_run_59 : decode cX11_run 59 = .ok (.iload_n 1, 1) := by decide +kernel
theorem dX11_run_60 : decode cX11_run 60 = .ok (.iaload, 1) := by decide +kernel
theorem dX11_run_61 : decode cX11_run 61 = .ok (.if_icmp .ge 37, 3) := by decide +kernel
theorem dX11_run_64 : decode cX11_run 64 = .ok (.aload_n 0, 1) := by decide +kernel
theorem dX11_run_65 : decode cX11_run 65 = .ok (.getfield 13, 3) := by decide +kernel
theorem dX11_run_68 : decode cX11_run 68 = .ok (.bipush 40, 2) := by decide +kernel
theorem dX11_run_70 : decode cX11_run 70 = .ok (.iload_n 1, 1) := by decide +kernel
theorem dX11_run_71 : decode cX11_run 71 = .ok (.imul, 1) := by decide +kernel
theorem dX11_run_72 : decode cX11_run 72 = .ok (.iload_n 2, 1) := by decide +kernel
theorem dX11_run_73 : decode cX11_run 73 = .ok (.iadd, 1) := by decide +kernel
theorem dX11_run_74 : decode cX11_run 74 = .ok (.iaload, 1) := by decide +kernel
theorem dX11_run_75 : decode cX11_run 75 = .ok (.i2l, 1) := by decide +kernel
theorem dX11_run_76 : decode cX11_run 76 = .ok (.lconst 1, 1) := by decide +kernel
theorem dX11_run_77 : decode cX11_run 77 = .ok (.ldc2_w 105, 3) := by decide +kernel
theorem dX11_run_80 : decode cX11_run 80 = .ok (.invokestatic 69, 3) := by decide +kernel
theorem dX11_run_83 : decode cX11_run 83 = .ok (.ifCond .ne 9, 3) := by decide +kernel
theorem dX11_run_86 : decode cX11_run 86 = .ok (.aload_n 0, 1) := by decide +kernel
theorem dX11_run_87 : decode cX11_run 87 = .ok (.iconst 3, 1) := by decide +kernel
theorem dX11_run_88 : decode cX11_run 88 = .ok (.invokevirtual 79, 3) := by decide +kernel
theorem dX11_run_91 : decode cX11_run 91 = .ok (.ireturn, 1) := by decide +kernel
theorem dX11_run_92 : decode cX11_run 92 = .ok (.iinc 2 1, 3) := by decide +kernel
theorem dX11_run_95 : decode cX11_run 95 = .ok (.goto (-41), 3) := by decide +kernel
theorem dX11_run_98 : decode cX11_run 98 = .ok (.aload_n 0, 1) := by decide +kernel
theorem dX11_run_99 : decode cX11_run 99 = .ok (.iconst 0, 1) := by decide +kernel
theorem dX11_run_100 : decode cX11_run 100 = .ok (.sipush 1312, 3) := by decide +kernel
theorem dX11_run_103 : decode cX11_run 103 = .ok (.bipush 8, 2) := by decide +kernel
theorem dX11_run_105 : decode cX11_run 105 = .ok (.invokevirtual 160, 3) := by decide +kernel
theorem dX11_run_108 : decode cX11_run 108 = .ok (.iconst 0, 1) := by decide +kernel
theorem dX11_run_109 : decode cX11_run 109 = .ok (.istore_n 2, 1) := by decide +kernel
theorem dX11_run_110 : decode cX11_run 110 = .ok (.iload_n 2, 1) := by decide +kernel
theorem dX11_run_111 : decode cX11_run 111 = .ok (.aload_n 0, 1) := by decide +kernel
theorem dX11_run_112 : decode cX11_run 112 = .ok (.getfield 7, 3) := by decide +kernel
theorem dX11_run_115 : decode cX11_run 115 = .ok (.iload_n 1, 1) := by decide +kernel
theorem dX11_run_116 : decode cX11_run 116 = .ok (.iaload, 1) := by decide +kernel
theorem dX11_run_117 : decode cX11_run 117 = .ok (.if_icmp .ge 53, 3) := by decide +kernel
theorem dX11_run_120 : decode cX11_run 120 = .ok (.aload_n 0, 1) := by decide +kernel
theorem dX11_run_121 : decode cX11_run 121 = .ok (.getfield 38, 3) := by decide +kernel
theorem dX11_run_124 : decode cX11_run 124 = .ok (.sipush 1317, 3) := by decide +kernel
theorem dX11_run_127 : decode cX11_run 127 = .ok (.iaload, 1) := by decide +kernel
theorem dX11_run_128 : decode cX11_run 128 = .ok (.aload_n 0, 1) := by decide +kernel
theorem dX11_run_129 : decode cX11_run 129 = .ok (.getfield 13, 3) := by decide +kernel
theorem dX11_run_132 : decode cX11_run 132 = .ok (.bipush 40, 2) := by decide +kernel
theorem dX11_run_134 : decode cX11_run 134 = .ok (.iload_n 1, 1) := by decide +kernel
theorem dX11_run_135 : decode cX11_run 135 = .ok (.imul, 1) := by decide +kernel
theorem dX11_run_136 : decode cX11_run 136 = .ok (.iload_n 2, 1) := by decide +kernel
theorem dX11_run_137 : decode cX11_run 137 = .ok (.iadd, 1) := by decide +kernel
theorem dX11_run_138 : decode cX11_run 138 = .ok (.iaload, 1) := by decide +kernel
theorem dX11_run_139 : decode cX11_run 139 = .ok (.invokestatic 139, 3) := by decide +kernel
theorem dX11_run_142 : decode cX11_run 142 = .ok (.ifCond .eq 28, 3) := by decide +kernel
theorem dX11_run_145 : decode cX11_run 145 = .ok (.aload_n 0, 1) := by decide +kernel
theorem dX11_run_146 : decode cX11_run 146 = .ok (.sipush 1312, 3) := by decide +kernel
theorem dX11_run_149 : decode cX11_run 149 = .ok (.aload_n 0, 1) := by decide +kernel
theorem dX11_run_150 : decode cX11_run 150 = .ok (.getfield 13, 3) := by decide +kernel
theorem dX11_run_153 : decode cX11_run 153 = .ok (.bipush 40, 2) := by decide +kernel
theorem dX11_run_155 : decode cX11_run 155 = .ok (.iload_n 1, 1) := by decide +kernel
theorem dX11_run_156 : decode cX11_run 156 = .ok (.imul, 1) := by decide +kernel
theorem dX11_run_157 : decode cX11_run 157 = .ok (.iload_n 2, 1) := by decide +kernel
theorem dX11_run_158 : decode cX11_run 158 = .ok (.iadd, 1) := by decide +kernel
theorem dX11_run_159 : decode cX11_run 159 = .ok (.iaload, 1) := by decide +kernel
theorem dX11_run_160 : decode cX11_run 160 = .ok (.invokevirtual 167, 3) := by decide +kernel
theorem dX11_run_163 : decode cX11_run 163 = .ok (.pop, 1) := by decide +kernel
theorem dX11_run_164 : decode cX11_run 164 = .ok (.iinc 2 1, 3) := by decide +kernel
theorem dX11_run_167 : decode cX11_run 167 = .ok (.goto (-57), 3) := by decide +kernel
theorem dX11_run_170 : decode cX11_run 170 = .ok (.aload_n 0, 1) := by decide +kernel
theorem dX11_run_171 : decode cX11_run 171 = .ok (.iload_n 2, 1) := by decide +kernel
theorem dX11_run_172 : decode cX11_run 172 = .ok (.putfield 64, 3) := by decide +kernel
theorem dX11_run_175 : decode cX11_run 175 = .ok (.aload_n 0, 1) := by decide +kernel
theorem dX11_run_176 : decode cX11_run 176 = .ok (.getfield 38, 3) := by decide +kernel
theorem dX11_run_179 : decode cX11_run 179 = .ok (.sipush 1316, 3) := by decide +kernel
theorem dX11_run_182 : decode cX11_run 182 = .ok (.iaload, 1) := by decide +kernel
theorem dX11_run_183 : decode cX11_run 183 = .ok (.ireturn, 1) := by decide +kernel
theorem dX11_safe_0 : decode cX11_safe 0 = .ok (.aload_n 0, 1) := by decide +kernel
theorem dX11_safe_1 : decode cX11_safe 1 = .ok (.getfield 124, 3) := by decide +kernel
theorem dX11_safe_4 : decode cX11_safe 4 = .ok (.ifCond .ne 6, 3) := by decide +kernel
theorem dX11_safe_7 : decode cX11_safe 7 = .ok (.bipush (-4), 2) := by decide +kernel
theorem dX11_safe_9 : decode cX11_safe 9 = .ok (.ireturn, 1) := by decide +kernel
theorem dX11_safe_10 : decode cX11_safe 10 = .ok (.iconst 0, 1) := by decide +kernel
theorem dX11_safe_11 : decode cX11_safe 11 = .ok (.istore_n 1, 1) := by decide +kernel
theorem dX11_safe_12 : decode cX11_safe 12 = .ok (.iconst 0, 1) := by decide +kernel
theorem dX11_safe_13 : decode cX11_safe 13 = .ok (.istore_n 2, 1) := by decide +kernel
theorem dX11_safe_14 : decode cX11_safe 14 = .ok (.iconst 0, 1) := by decide +kernel
theorem dX11_safe_15 : decode cX11_safe 15 = .ok (.istore_n 3, 1) := by decide +kernel
theorem dX11_safe_16 : decode cX11_safe 16 = .ok (.iconst 1, 1) := by decide +kernel
theorem dX11_safe_17 : decode cX11_safe 17 = .ok (.istore 4, 2) := by decide +kernel
theorem dX11_safe_19 : decode cX11_safe 19 = .ok (.iload 4, 2) := by decide +kernel
theorem dX11_safe_21 : decode cX11_safe 21 = .ok (.bipush 13, 2) := by decide +kernel
theorem dX11_safe_23 : decode cX11_safe 23 = .ok (.if_icmp .ge 99, 3) := by decide +kernel
theorem dX11_safe_26 : decode cX11_safe 26 = .ok (.aload_n 0, 1) := by decide +kernel
theorem dX11_safe_27 : decode cX11_safe 27 = .ok (.getfield 38, 3) := by decide +kernel
theorem dX11_safe_30 : decode cX11_safe 30 = .ok (.iconst 5, 1) := by decide +kernel
theorem dX11_safe_31 : decode cX11_safe 31 = .ok (.iaload, 1) := by decide +kernel
theorem dX11_safe_32 : decode cX11_safe 32 = .ok (.iload 4, 2) := by decide +kernel
theorem dX11_safe_34 : decode cX11_safe 34 = .ok (.invokestatic 139, 3) := by decide +kernel
theorem dX11_safe_37 : decode cX11_safe 37 = .ok (.ifCond .eq 79, 3) := by decide +kernel
theorem dX11_safe_40 : decode cX11_safe 40 = .ok (.aload_n 0, 1) := by decide +kernel
theorem dX11_safe_41 : decode cX11_safe 41 = .ok (.iconst 0, 1) := by decide +kernel
theorem dX11_safe_42 : decode cX11_safe 42 = .ok (.sipush 1312, 3) := by decide +kernel
theorem dX11_safe_45 : decode cX11_safe 45 = .ok (.bipush 8, 2) := by decide +kernel
theorem dX11_safe_47 : decode cX11_safe 47 = .ok (.invokevirtual 160, 3) := by decide +kernel
theorem dX11_safe_50 : decode cX11_safe 50 = .ok (.aload_n 0, 1) := by decide +kernel
theorem dX11_safe_51 : decode cX11_safe 51 = .ok (.sipush 1312, 3) := by decide +kernel
theorem dX11_safe_54 : decode cX11_safe 54 = .ok (.iload 4, 2) := by decide +kernel
theorem dX11_safe_56 : decode cX11_safe 56 = .ok (.invokevirtual 167, 3) := by decide +kernel
theorem dX11_safe_59 : decode cX11_safe 59 = .ok (.invokestatic 133, 3) := by decide +kernel
theorem dX11_safe_62 : decode cX11_safe 62 = .ok (.istore 5, 2) := by decide +kernel
theorem dX11_safe_64 : decode cX11_safe 64 = .ok (.iload_n 1, 1) := by decide +kernel
theorem dX11_safe_65 : decode cX11_safe 65 = .ok (.iload 5, 2) := by decide +kernel
theorem dX11_safe_67 : decode cX11_safe 67 = .ok (.ifCond .ne 10, 3) := by decide +kernel
theorem dX11_safe_70 : decode cX11_safe 70 = .ok (.iconst 1, 1) := by decide +kernel
theorem dX11_safe_71 : decode cX11_safe 71 = .ok (.iload 4, 2) := by decide +kernel
theorem dX11_safe_73 : decode cX11_safe 73 = .ok (.ishl, 1) := by decide +kernel
theorem dX11_safe_74 : decode cX11_safe 74 = .ok (.goto 4, 3) := by decide +kernel
theorem dX11_safe_77 : decode cX11_safe 77 = .ok (.iconst 0, 1) := by decide +kernel
theorem dX11_safe_78 : decode cX11_safe 78 = .ok (.ior, 1) := by decide +kernel
theorem dX11_safe_79 : decode cX11_safe 79 = .ok (.istore_n 1, 1) := by decide +kernel
theorem dX11_safe_80 : decode cX11_safe 80 = .ok (.iload 5, 2) := by decide +kernel
theorem dX11_safe_82 : decode cX11_safe 82 = .ok (.iload_n 3, 1) := by decide +kernel
theorem dX11_safe_83 : decode cX11_safe 83 = .ok (.if_icmp .le 7, 3) := by decide +kernel
theorem dX11_safe_86 : decode cX11_safe 86 = .ok (.iconst 0, 1) := by decide +kernel
theorem dX11_safe_87 : decode cX11_safe 87 = .ok (.goto 4, 3) := by decide +kernel
theorem dX11_safe_90 : decode cX11_safe 90 = .ok (.iload_n 2, 1) := by decide +kernel
theorem dX11_safe_91 : decode cX11_safe 91 = .ok (.istore_n 2, 1) := by decide +kernel
theorem dX11_safe_92 : decode cX11_safe 92 = .ok (.iload_n 2, 1) := by decide +kernel
theorem dX11_safe_93 : decode cX11_safe 93 = .ok (.iload 5, 2) := by decide +kernel
theorem dX11_safe_95 : decode cX11_safe 95 = .ok (.iload_n 3, 1) := by decide +kernel
theorem dX11_safe_96 : decode cX11_safe 96 = .ok (.if_icmp .lt 10, 3) := by decide +kernel
theorem dX11_safe_99 : decode cX11_safe 99 = .ok (.iconst 1, 1) := by decide +kernel
theorem dX11_safe_100 : decode cX11_safe 100 = .ok (.iload 4, 2) := by decide +kernel
theorem dX11_safe_102 : decode cX11_safe 102 = .ok (.ishl, 1) := by decide +kernel
theorem dX11_safe_103 : decode cX11_safe 103 = .ok (.goto 4, 3) := by decide +kernel
theorem dX11_safe_106 : decode cX11_safe 106 = .ok (.iconst 0, 1) := by decide +kernel
theorem dX11_safe_107 : decode cX11_safe 107 = .ok (.ior, 1) := by decide +kernel
theorem dX11_safe_108 : decode cX11_safe 108 = .ok (.istore_n 2, 1) := by decide +kernel
theorem dX11_safe_109 : decode cX11_safe 109 = .ok (.iload_n 3, 1) := by decide +kernel
theorem dX11_safe_110 : decode cX11_safe 110 = .ok (.iload 5, 2) := by decide +kernel
theorem dX11_safe_112 : decode cX11_safe 112 = .ok (.invokestatic 136, 3) := by decide +kernel
theorem dX11_safe_115 : decode cX11_safe 115 = .ok (.istore_n 3, 1) := by decide +kernel
theorem dX11_safe_116 : decode cX11_safe 116 = .ok (.iinc 4 1, 3) := by decide +kernel
theorem dX11_safe_119 : decode cX11_safe 119 = .ok (.goto (-100), 3) := by decide +kernel
theorem dX11_safe_122 : decode cX11_safe 122 = .ok (.aload_n 0, 1) := by decide +kernel
theorem dX11_safe_123 : decode cX11_safe 123 = .ok (.iload_n 2, 1) := by decide +kernel
theorem dX11_safe_124 : decode cX11_safe 124 = .ok (.putfield 64, 3) := by decide +kernel
theorem dX11_safe_127 : decode cX11_safe 127 = .ok (.iload_n 1, 1) := by decide +kernel
theorem dX11_safe_128 : decode cX11_safe 128 = .ok (.ireturn, 1) := by decide +kernel
theorem dX11_follows_0 : decode cX11_follows 0 = .ok (.iload_n 2, 1) := by decide +kernel
theorem dX11_follows_1 : decode cX11_follows 1 = .ok (.ifCond .eq 7, 3) := by decide +kernel
theorem dX11_follows_4 : decode cX11_follows 4 = .ok (.iconst 0, 1) := by decide +kernel
theorem dX11_follows_5 : decode cX11_follows 5 = .ok (.goto 6, 3) := by decide +kernel
theorem dX11_follows_8 : decode cX11_follows 8 = .ok (.iload_n 1, 1) := by decide +kernel
theorem dX11_follows_9 : decode cX11_follows 9 = .ok (.iconst 1, 1) := by decide +kernel
theorem dX11_follows_10 : decode cX11_follows 10 = .ok (.isub, 1) := by decide +kernel
theorem dX11_follows_11 : decode cX11_follows 11 = .ok (.istore_n 3, 1) := by decide +kernel
theorem dX11_follows_12 : decode cX11_follows 12 = .ok (.iload_n 2, 1) := by decide +kernel
theorem dX11_follows_13 : decode cX11_follows 13 = .ok (.ifCond .eq 20, 3) := by decide +kernel
theorem dX11_follows_16 : decode cX11_follows 16 = .ok (.aload_n 0, 1) := by decide +kernel
theorem dX11_follows_17 : decode cX11_follows 17 = .ok (.iconst 0, 1) := by decide +kernel
theorem dX11_follows_18 : decode cX11_follows 18 = .ok (.sipush 1312, 3) := by decide +kernel
theorem dX11_follows_21 : decode cX11_follows 21 = .ok (.bipush 8, 2) := by decide +kernel
theorem dX11_follows_23 : decode cX11_follows 23 = .ok (.invokevirtual 160, 3) := by decide +kernel
theorem dX11_follows_26 : decode cX11_follows 26 = .ok (.aload_n 0, 1) := by decide +kernel
theorem dX11_follows_27 : decode cX11_follows 27 = .ok (.getfield 51, 3) := by decide +kernel
theorem dX11_follows_30 : decode cX11_follows 30 = .ok (.iconst 0, 1) := by decide +kernel
theorem dX11_follows_31 : decode cX11_follows 31 = .ok (.iconst 0, 1) := by decide +kernel
theorem dX11_follows_32 : decode cX11_follows 32 = .ok (.iastore, 1) := by decide +kernel
theorem dX11_follows_33 : decode cX11_follows 33 = .ok (.iload_n 3, 1) := by decide +kernel
theorem dX11_follows_34 : decode cX11_follows 34 = .ok (.ifCond .lt 129, 3) := by decide +kernel
theorem dX11_follows_37 : decode cX11_follows 37 = .ok (.iload_n 3, 1) := by decide +kernel
theorem dX11_follows_38 : decode cX11_follows 38 = .ok (.iload_n 1, 1) := by decide +kernel
theorem dX11_follows_39 : decode cX11_follows 39 = .ok (.if_icmp .ge 124, 3) := by decide +kernel
theorem dX11_follows_42 : decode cX11_follows 42 = .ok (.aload_n 0, 1) := by decide +kernel
theorem dX11_follows_43 : decode cX11_follows 43 = .ok (.getfield 51, 3) := by decide +kernel
theorem dX11_follows_46 : decode cX11_follows 46 = .ok (.iload_n 3, 1) := by decide +kernel
theorem dX11_follows_47 : decode cX11_follows 47 = .ok (.iaload, 1) := by decide +kernel
theorem dX11_follows_48 : decode cX11_follows 48 = .ok (.iconst 1, 1) := by decide +kernel
theorem dX11_follows_49 : decode cX11_follows 49 = .ok (.iadd, 1) := by decide +kernel
theorem dX11_follows_50 : decode cX11_follows 50 = .ok (.istore 4, 2) := by decide +kernel
theorem dX11_follows_52 : decode cX11_follows 52 = .ok (.iload 4, 2) := by decide +kernel
theorem dX11_follows_54 : decode cX11_follows 54 = .ok (.bipush 13, 2) := by decide +kernel
theorem dX11_follows_56 : decode cX11_follows 56 = .ok (.if_icmp .ge 32, 3) := by decide +kernel
theorem dX11_follows_59 : decode cX11_follows 59 = .ok (.aload_n 0, 1) := by decide +kernel
theorem dX11_follows_60 : decode cX11_follows 60 = .ok (.getfield 38, 3) := by decide +kernel
theorem dX11_follows_63 : decode cX11_follows 63 = .ok (.sipush 1312, 3) := by decide +kernel
theorem dX11_follows_66 : decode cX11_follows 66 = .ok (.iload_n 3, 1) := by decide +kernel
theorem dX11_follows_67 : decode cX11_follows 67 = .ok (.bipush 8, 2) := by decide +kernel
theorem dX11_follows_69 : decode cX11_follows 69 = .ok (.imul, 1) := by decide +kernel
theorem dX11_follows_70 : decode cX11_follows 70 = .ok (.iadd, 1) := by decide +kernel
theorem dX11_follows_71 : decode cX11_follows 71 = .ok (.iconst 5, 1) := by decide +kernel
theorem dX11_follows_72 : decode cX11_follows 72 = .ok (.iadd, 1) := by decide +kernel
theorem dX11_follows_73 : decode cX11_follows 73 = .ok (.iaload, 1) := by decide +kernel
theorem dX11_follows_74 : decode cX11_follows 74 = .ok (.iload 4, 2) := by decide +kernel
theorem dX11_follows_76 : decode cX11_follows 76 = .ok (.invokestatic 139, 3) := by decide +kernel
theorem dX11_follows_79 : decode cX11_follows 79 = .ok (.ifCond .ne 9, 3) := by decide +kernel
theorem dX11_follows_82 : decode cX11_follows 82 = .ok (.iinc 4 1, 3) := by decide +kernel
theorem dX11_follows_85 : decode cX11_follows 85 = .ok (.goto (-33), 3) := by decide +kernel
theorem dX11_follows_88 : decode cX11_follows 88 = .ok (.iload 4, 2) := by decide +kernel
theorem dX11_follows_90 : decode cX11_follows 90 = .ok (.bipush 12, 2) := by decide +kernel
theorem dX11_follows_92 : decode cX11_follows 92 = .ok (.if_icmp .le 9, 3) := by decide +kernel
theorem dX11_follows_95 : decode cX11_follows 95 = .ok (.iinc 3 (-1), 3) := by decide +kernel
theorem dX11_follows_98 : decode cX11_follows 98 = .ok (.goto 62, 3) := by decide +kernel
theorem dX11_follows_101 : decode cX11_follows 101 = .ok (.aload_n 0, 1) := by decide +kernel
theorem dX11_follows_102 : decode cX11_follows 102 = .ok (.getfield 51, 3) := by decide +kernel
theorem dX11_follows_105 : decode cX11_follows 105 = .ok (.iload_n 3, 1) := by decide +kernel
theorem dX11_follows_106 : decode cX11_follows 106 = .ok (.iload 4, 2) := by decide +kernel
theorem dX11_follows_108 : decode cX11_follows 108 = .ok (.iastore, 1) := by decide +kernel
theorem dX11_follows_109 : decode cX11_follows 109 = .ok (.aload_n 0, 1) := by decide +kernel
theorem dX11_follows_110 : decode cX11_follows 110 = .ok (.sipush 1312, 3) := by decide +kernel
theorem dX11_follows_113 : decode cX11_follows 113 = .ok (.iload_n 3, 1) := by decide +kernel
theorem dX11_follows_114 : decode cX11_follows 114 = .ok (.bipush 8, 2) := by decide +kernel
theorem dX11_follows_116 : decode cX11_follows 116 = .ok (.imul, 1) := by decide +kernel
theorem dX11_follows_117 : decode cX11_follows 117 = .ok (.iadd, 1) := by decide +kernel
theorem dX11_follows_118 : decode cX11_follows 118 = .ok (.sipush 1312, 3) := by decide +kernel
theorem dX11_follows_121 : decode cX11_follows 121 = .ok (.iload_n 3, 1) := by decide +kernel
theorem dX11_follows_122 : decode cX11_follows 122 = .ok (.iconst 1, 1) := by decide +kernel
theorem dX11_follows_123 : decode cX11_follows 123 = .ok (.iadd, 1) := by decide +kernel
theorem dX11_follows_124 : decode cX11_follows 124 = .ok (.bipush 8, 2) := by decide +kernel
theorem dX11_follows_126 : decode cX11_follows 126 = .ok (.imul, 1) := by decide +kernel
theorem dX11_follows_127 : decode cX11_follows 127 = .ok (.iadd, 1) := by decide +kernel
theorem dX11_follows_128 : decode cX11_follows 128 = .ok (.bipush 8, 2) := by decide +kernel
theorem dX11_follows_130 : decode cX11_follows 130 = .ok (.invokevirtual 160, 3) := by decide +kernel
theorem dX11_follows_133 : decode cX11_follows 133 = .ok (.aload_n 0, 1) := by decide +kernel
theorem dX11_follows_134 : decode cX11_follows 134 = .ok (.sipush 1312, 3) := by decide +kernel
theorem dX11_follows_137 : decode cX11_follows 137 = .ok (.iload_n 3, 1) := by decide +kernel
theorem dX11_follows_138 : decode cX11_follows 138 = .ok (.iconst 1, 1) := by decide +kernel
theorem dX11_follows_139 : decode cX11_follows 139 = .ok (.iadd, 1) := by decide +kernel
theorem dX11_follows_140 : decode cX11_follows 140 = .ok (.bipush 8, 2) := by decide +kernel
theorem dX11_follows_142 : decode cX11_follows 142 = .ok (.imul, 1) := by decide +kernel
theorem dX11_follows_143 : decode cX11_follows 143 = .ok (.iadd, 1) := by decide +kernel
theorem dX11_follows_144 : decode cX11_follows 144 = .ok (.iload 4, 2) := by decide +kernel
theorem dX11_follows_146 : decode cX11_follows 146 = .ok (.invokevirtual 167, 3) := by decide +kernel
theorem dX11_follows_149 : decode cX11_follows 149 = .ok (.pop, 1) := by decide +kernel
theorem dX11_follows_150 : decode cX11_follows 150 = .ok (.iinc 3 1, 3) := by decide +kernel
theorem dX11_follows_153 : decode cX11_follows 153 = .ok (.aload_n 0, 1) := by decide +kernel
theorem dX11_follows_154 : decode cX11_follows 154 = .ok (.getfield 51, 3) := by decide +kernel
theorem dX11_follows_157 : decode cX11_follows 157 = .ok (.iload_n 3, 1) := by decide +kernel
theorem dX11_follows_158 : decode cX11_follows 158 = .ok (.iconst 0, 1) := by decide +kernel
theorem dX11_follows_159 : decode cX11_follows 159 = .ok (.iastore, 1) := by decide +kernel
theorem dX11_follows_160 : decode cX11_follows 160 = .ok (.goto (-127), 3) := by decide +kernel
theorem dX11_follows_163 : decode cX11_follows 163 = .ok (.iload_n 3, 1) := by decide +kernel
theorem dX11_follows_164 : decode cX11_follows 164 = .ok (.iload_n 1, 1) := by decide +kernel
theorem dX11_follows_165 : decode cX11_follows 165 = .ok (.if_icmp .ne 7, 3) := by decide +kernel
theorem dX11_follows_168 : decode cX11_follows 168 = .ok (.iconst 1, 1) := by decide +kernel
theorem dX11_follows_169 : decode cX11_follows 169 = .ok (.goto 4, 3) := by decide +kernel
theorem dX11_follows_172 : decode cX11_follows 172 = .ok (.iconst 0, 1) := by decide +kernel
theorem dX11_follows_173 : decode cX11_follows 173 = .ok (.ireturn, 1) := by decide +kernel
theorem dX11_comes_0 : decode cX11_comes 0 = .ok (.aload_n 0, 1) := by decide +kernel
theorem dX11_comes_1 : decode cX11_comes 1 = .ok (.iload_n 1, 1) := by decide +kernel
theorem dX11_comes_2 : decode cX11_comes 2 = .ok (.iload_n 2, 1) := by decide +kernel
theorem dX11_comes_3 : decode cX11_comes 3 = .ok (.invokevirtual 83, 3) := by decide +kernel
theorem dX11_comes_6 : decode cX11_comes 6 = .ok (.iconst 0, 1) := by decide +kernel
theorem dX11_comes_7 : decode cX11_comes 7 = .ok (.istore_n 3, 1) := by decide +kernel
theorem dX11_comes_8 : decode cX11_comes 8 = .ok (.iload_n 3, 1) := by decide +kernel
theorem dX11_comes_9 : decode cX11_comes 9 = .ok (.iload_n 2, 1) := by decide +kernel
theorem dX11_comes_10 : decode cX11_comes 10 = .ok (.if_icmp .ge 26, 3) := by decide +kernel
theorem dX11_comes_13 : decode cX11_comes 13 = .ok (.aload_n 0, 1) := by decide +kernel
theorem dX11_comes_14 : decode cX11_comes 14 = .ok (.getfield 13, 3) := by decide +kernel
theorem dX11_comes_17 : decode cX11_comes 17 = .ok (.bipush 40, 2) := by decide +kernel
theorem dX11_comes_19 : decode cX11_comes 19 = .ok (.iload_n 1, 1) := by decide +kernel
theorem dX11_comes_20 : decode cX11_comes 20 = .ok (.imul, 1) := by decide +kernel
theorem dX11_comes_21 : decode cX11_comes 21 = .ok (.iload_n 3, 1) := by decide +kernel
theorem dX11_comes_22 : decode cX11_comes 22 = .ok (.iadd, 1) := by decide +kernel
theorem dX11_comes_23 : decode cX11_comes 23 = .ok (.aload_n 0, 1) := by decide +kernel
theorem dX11_comes_24 : decode cX11_comes 24 = .ok (.getfield 54, 3) := by decide +kernel
theorem dX11_comes_27 : decode cX11_comes 27 = .ok (.iload_n 3, 1) := by decide +kernel
theorem dX11_comes_28 : decode cX11_comes 28 = .ok (.iaload, 1) := by decide +kernel
theorem dX11_comes_29 : decode cX11_comes 29 = .ok (.iastore, 1) := by decide +kernel
theorem dX11_comes_30 : decode cX11_comes 30 = .ok (.iinc 3 1, 3) := by decide +kernel
theorem dX11_comes_33 : decode cX11_comes 33 = .ok (.goto (-25), 3) := by decide +kernel
theorem dX11_comes_36 : decode cX11_comes 36 = .ok (.return_, 1) := by decide +kernel
theorem dX11_takes_0 : decode cX11_takes 0 = .ok (.iconst 0, 1) := by decide +kernel
theorem dX11_takes_1 : decode cX11_takes 1 = .ok (.istore_n 2, 1) := by decide +kernel
theorem dX11_takes_2 : decode cX11_takes 2 = .ok (.iload_n 2, 1) := by decide +kernel
theorem dX11_takes_3 : decode cX11_takes 3 = .ok (.iload_n 1, 1) := by decide +kernel
theorem dX11_takes_4 : decode cX11_takes 4 = .ok (.if_icmp .ge 21, 3) := by decide +kernel
theorem dX11_takes_7 : decode cX11_takes 7 = .ok (.aload_n 0, 1) := by decide +kernel
theorem dX11_takes_8 : decode cX11_takes 8 = .ok (.getfield 54, 3) := by decide +kernel
theorem dX11_takes_11 : decode cX11_takes 11 = .ok (.iload_n 2, 1) := by decide +kernel
theorem dX11_takes_12 : decode cX11_takes 12 = .ok (.aload_n 0, 1) := by decide +kernel
theorem dX11_takes_13 : decode cX11_takes 13 = .ok (.getfield 51, 3) := by decide +kernel
theorem dX11_takes_16 : decode cX11_takes 16 = .ok (.iload_n 2, 1) := by decide +kernel
theorem dX11_takes_17 : decode cX11_takes 17 = .ok (.iaload, 1) := by decide +kernel
theorem dX11_takes_18 : decode cX11_takes 18 = .ok (.iastore, 1) := by decide +kernel
theorem dX11_takes_19 : decode cX11_takes 19 = .ok (.iinc 2 1, 3) := by decide +kernel
theorem dX11_takes_22 : decode cX11_takes 22 = .ok (.goto (-20), 3) := by decide +kernel
theorem dX11_takes_25 : decode cX11_takes 25 = .ok (.return_, 1) := by decide +kernel
theorem dX11_fewest_0 : decode cX11_fewest 0 = .ok (.aload_n 0, 1) := by decide +kernel
theorem dX11_fewest_1 : decode cX11_fewest 1 = .ok (.iload_n 1, 1) := by decide +kernel
theorem dX11_fewest_2 : decode cX11_fewest 2 = .ok (.invokevirtual 152, 3) := by decide +kernel
theorem dX11_fewest_5 : decode cX11_fewest 5 = .ok (.ifCond .eq 11, 3) := by decide +kernel
theorem dX11_fewest_8 : decode cX11_fewest 8 = .ok (.aload_n 0, 1) := by decide +kernel
theorem dX11_fewest_9 : decode cX11_fewest 9 = .ok (.iload_n 2, 1) := by decide +kernel
theorem dX11_fewest_10 : decode cX11_fewest 10 = .ok (.invokevirtual 75, 3) := by decide +kernel
theorem dX11_fewest_13 : decode cX11_fewest 13 = .ok (.ifCond .ne 5, 3) := by decide +kernel
theorem dX11_fewest_16 : decode cX11_fewest 16 = .ok (.iconst (-1), 1) := by decide +kernel
theorem dX11_fewest_17 : decode cX11_fewest 17 = .ok (.ireturn, 1) := by decide +kernel
theorem dX11_fewest_18 : decode cX11_fewest 18 = .ok (.aload_n 0, 1) := by decide +kernel
theorem dX11_fewest_19 : decode cX11_fewest 19 = .ok (.getfield 38, 3) := by decide +kernel
theorem dX11_fewest_22 : decode cX11_fewest 22 = .ok (.iconst 4, 1) := by decide +kernel
theorem dX11_fewest_23 : decode cX11_fewest 23 = .ok (.iaload, 1) := by decide +kernel
theorem dX11_fewest_24 : decode cX11_fewest 24 = .ok (.iload_n 1, 1) := by decide +kernel
theorem dX11_fewest_25 : decode cX11_fewest 25 = .ok (.invokestatic 139, 3) := by decide +kernel
theorem dX11_fewest_28 : decode cX11_fewest 28 = .ok (.ifCond .eq 11, 3) := by decide +kernel
theorem dX11_fewest_31 : decode cX11_fewest 31 = .ok (.aload_n 0, 1) := by decide +kernel
theorem dX11_fewest_32 : decode cX11_fewest 32 = .ok (.iload_n 2, 1) := by decide +kernel
theorem dX11_fewest_33 : decode cX11_fewest 33 = .ok (.iconst 0, 1) := by decide +kernel
theorem dX11_fewest_34 : decode cX11_fewest 34 = .ok (.invokevirtual 83, 3) := by decide +kernel
theorem dX11_fewest_37 : decode cX11_fewest 37 = .ok (.iconst 0, 1) := by decide +kernel
theorem dX11_fewest_38 : decode cX11_fewest 38 = .ok (.ireturn, 1) := by decide +kernel
theorem dX11_fewest_39 : decode cX11_fewest 39 = .ok (.iconst 1, 1) := by decide +kernel
theorem dX11_fewest_40 : decode cX11_fewest 40 = .ok (.istore_n 3, 1) := by decide +kernel
theorem dX11_fewest_41 : decode cX11_fewest 41 = .ok (.iload_n 3, 1) := by decide +kernel
theorem dX11_fewest_42 : decode cX11_fewest 42 = .ok (.iconst 4, 1) := by decide +kernel
theorem dX11_fewest_43 : decode cX11_fewest 43 = .ok (.if_icmp .gt 68, 3) := by decide +kernel
theorem dX11_fewest_46 : decode cX11_fewest 46 = .ok (.aload_n 0, 1) := by decide +kernel
theorem dX11_fewest_47 : decode cX11_fewest 47 = .ok (.iload_n 3, 1) := by decide +kernel
theorem dX11_fewest_48 : decode cX11_fewest 48 = .ok (.iconst 1, 1) := by decide +kernel
theorem dX11_fewest_49 : decode cX11_fewest 49 = .ok (.invokevirtual 174, 3) := by decide +kernel
theorem dX11_fewest_52 : decode cX11_fewest 52 = .ok (.istore 4, 2) := by decide +kernel
theorem dX11_fewest_54 : decode cX11_fewest 54 = .ok (.iload 4, 2) := by decide +kernel
theorem dX11_fewest_56 : decode cX11_fewest 56 = .ok (.ifCond .eq 49, 3) := by decide +kernel
theorem dX11_fewest_59 : decode cX11_fewest 59 = .ok (.aload_n 0, 1) := by decide +kernel
theorem dX11_fewest_60 : decode cX11_fewest 60 = .ok (.getfield 38, 3) := by decide +kernel
theorem dX11_fewest_63 : decode cX11_fewest 63 = .ok (.sipush 1312, 3) := by decide +kernel
theorem dX11_fewest_66 : decode cX11_fewest 66 = .ok (.iload_n 3, 1) := by decide +kernel
theorem dX11_fewest_67 : decode cX11_fewest 67 = .ok (.bipush 8, 2) := by decide +kernel
theorem dX11_fewest_69 : decode cX11_fewest 69 = .ok (.imul, 1) := by decide +kernel
theorem dX11_fewest_70 : decode cX11_fewest 70 = .ok (.iadd, 1) := by decide +kernel
theorem dX11_fewest_71 : decode cX11_fewest 71 = .ok (.iconst 4, 1) := by decide +kernel
theorem dX11_fewest_72 : decode cX11_fewest 72 = .ok (.iadd, 1) := by decide +kernel
theorem dX11_fewest_73 : decode cX11_fewest 73 = .ok (.iaload, 1) := by decide +kernel
theorem dX11_fewest_74 : decode cX11_fewest 74 = .ok (.iload_n 1, 1) := by decide +kernel
theorem dX11_fewest_75 : decode cX11_fewest 75 = .ok (.invokestatic 139, 3) := by decide +kernel
theorem dX11_fewest_78 : decode cX11_fewest 78 = .ok (.ifCond .eq 16, 3) := by decide +kernel
theorem dX11_fewest_81 : decode cX11_fewest 81 = .ok (.aload_n 0, 1) := by decide +kernel
theorem dX11_fewest_82 : decode cX11_fewest 82 = .ok (.iload_n 3, 1) := by decide +kernel
theorem dX11_fewest_83 : decode cX11_fewest 83 = .ok (.invokevirtual 178, 3) := by decide +kernel
theorem dX11_fewest_86 : decode cX11_fewest 86 = .ok (.aload_n 0, 1) := by decide +kernel
theorem dX11_fewest_87 : decode cX11_fewest 87 = .ok (.iload_n 2, 1) := by decide +kernel
theorem dX11_fewest_88 : decode cX11_fewest 88 = .ok (.iload_n 3, 1) := by decide +kernel
theorem dX11_fewest_89 : decode cX11_fewest 89 = .ok (.invokevirtual 182, 3) := by decide +kernel
theorem dX11_fewest_92 : decode cX11_fewest 92 = .ok (.iload_n 3, 1) := by decide +kernel
theorem dX11_fewest_93 : decode cX11_fewest 93 = .ok (.ireturn, 1) := by decide +kernel
theorem dX11_fewest_94 : decode cX11_fewest 94 = .ok (.aload_n 0, 1) := by decide +kernel
theorem dX11_fewest_95 : decode cX11_fewest 95 = .ok (.iload_n 3, 1) := by decide +kernel
theorem dX11_fewest_96 : decode cX11_fewest 96 = .ok (.iconst 0, 1) := by decide +kernel
theorem dX11_fewest_97 : decode cX11_fewest 97 = .ok (.invokevirtual 174, 3) := by decide +kernel
theorem dX11_fewest_100 : decode cX11_fewest 100 = .ok (.istore 4, 2) := by decide +kernel
theorem dX11_fewest_102 : decode cX11_fewest 102 = .ok (.goto (-48), 3) := by decide +kernel
theorem dX11_fewest_105 : decode cX11_fewest 105 = .ok (.iinc 3 1, 3) := by decide +kernel
theorem dX11_fewest_108 : decode cX11_fewest 108 = .ok (.goto (-67), 3) := by decide +kernel
theorem dX11_fewest_111 : decode cX11_fewest 111 = .ok (.bipush (-9), 2) := by decide +kernel
theorem dX11_fewest_113 : decode cX11_fewest 113 = .ok (.ireturn, 1) := by decide +kernel
theorem dX11_most_0 : decode cX11_most 0 = .ok (.iload_n 1, 1) := by decide +kernel
theorem dX11_most_1 : decode cX11_most 1 = .ok (.i2l, 1) := by decide +kernel
theorem dX11_most_2 : decode cX11_most 2 = .ok (.lconst 0, 1) := by decide +kernel
theorem dX11_most_3 : decode cX11_most 3 = .ok (.ldc2_w 155, 3) := by decide +kernel
theorem dX11_most_6 : decode cX11_most 6 = .ok (.invokestatic 69, 3) := by decide +kernel
theorem dX11_most_9 : decode cX11_most 9 = .ok (.ifCond .eq 11, 3) := by decide +kernel
theorem dX11_most_12 : decode cX11_most 12 = .ok (.aload_n 0, 1) := by decide +kernel
theorem dX11_most_13 : decode cX11_most 13 = .ok (.iload_n 2, 1) := by decide +kernel
theorem dX11_most_14 : decode cX11_most 14 = .ok (.invokevirtual 75, 3) := by decide +kernel
theorem dX11_most_17 : decode cX11_most 17 = .ok (.ifCond .ne 5, 3) := by decide +kernel
theorem dX11_most_20 : decode cX11_most 20 = .ok (.iconst (-1), 1) := by decide +kernel
theorem dX11_most_21 : decode cX11_most 21 = .ok (.ireturn, 1) := by decide +kernel
theorem dX11_most_22 : decode cX11_most 22 = .ok (.aload_n 0, 1) := by decide +kernel
theorem dX11_most_23 : decode cX11_most 23 = .ok (.getfield 124, 3) := by decide +kernel
theorem dX11_most_26 : decode cX11_most 26 = .ok (.ifCond .ne 6, 3) := by decide +kernel
theorem dX11_most_29 : decode cX11_most 29 = .ok (.bipush (-4), 2) := by decide +kernel
theorem dX11_most_31 : decode cX11_most 31 = .ok (.ireturn, 1) := by decide +kernel
theorem dX11_most_32 : decode cX11_most 32 = .ok (.iload_n 1, 1) := by decide +kernel
theorem dX11_most_33 : decode cX11_most 33 = .ok (.aload_n 0, 1) := by decide +kernel
theorem dX11_most_34 : decode cX11_most 34 = .ok (.getfield 38, 3) := by decide +kernel
theorem dX11_most_37 : decode cX11_most 37 = .ok (.iconst 5, 1) := by decide +kernel
theorem dX11_most_38 : decode cX11_most 38 = .ok (.iaload, 1) := by decide +kernel
theorem dX11_most_39 : decode cX11_most 39 = .ok (.invokestatic 133, 3) := by decide +kernel
theorem dX11_most_42 : decode cX11_most 42 = .ok (.invokestatic 101, 3) := by decide +kernel
theorem dX11_most_45 : decode cX11_most 45 = .ok (.istore_n 3, 1) := by decide +kernel
theorem dX11_most_46 : decode cX11_most 46 = .ok (.iload_n 3, 1) := by decide +kernel
theorem dX11_most_47 : decode cX11_most 47 = .ok (.ifCond .ne 15, 3) := by decide +kernel
theorem dX11_most_50 : decode cX11_most 50 = .ok (.aload_n 0, 1) := by decide +kernel
theorem dX11_most_51 : decode cX11_most 51 = .ok (.getfield 38, 3) := by decide +kernel
theorem dX11_most_54 : decode cX11_most 54 = .ok (.iconst 4, 1) := by decide +kernel
theorem dX11_most_55 : decode cX11_most 55 = .ok (.iaload, 1) := by decide +kernel
theorem dX11_most_56 : decode cX11_most 56 = .ok (.invokestatic 133, 3) := by decide +kernel
theorem dX11_most_59 : decode cX11_most 59 = .ok (.goto 4, 3) := by decide +kernel
theorem dX11_most_62 : decode cX11_most 62 = .ok (.iconst (-1), 1) := by decide +kernel
theorem dX11_most_63 : decode cX11_most 63 = .ok (.istore 4, 2) := by decide +kernel
theorem dX11_most_65 : decode cX11_most 65 = .ok (.iload_n 3, 1) := by decide +kernel
theorem dX11_most_66 : decode cX11_most 66 = .ok (.ifCond .le 16, 3) := by decide +kernel
theorem dX11_most_69 : decode cX11_most 69 = .ok (.aload_n 0, 1) := by decide +kernel
theorem dX11_most_70 : decode cX11_most 70 = .ok (.iload_n 3, 1) := by decide +kernel
theorem dX11_most_71 : decode cX11_most 71 = .ok (.iconst 1, 1) := by decide +kernel
theorem dX11_most_72 : decode cX11_most 72 = .ok (.invokevirtual 174, 3) := by decide +kernel
theorem dX11_most_75 : decode cX11_most 75 = .ok (.ifCond .eq 7, 3) := by decide +kernel
theorem dX11_most_78 : decode cX11_most 78 = .ok (.iconst 1, 1) := by decide +kernel
theorem dX11_most_79 : decode cX11_most 79 = .ok (.goto 4, 3) := by decide +kernel
theorem dX11_most_82 : decode cX11_most 82 = .ok (.iconst 0, 1) := by decide +kernel
theorem dX11_most_83 : decode cX11_most 83 = .ok (.istore 5, 2) := by decide +kernel
theorem dX11_most_85 : decode cX11_most 85 = .ok (.iload 5, 2) := by decide +kernel
theorem dX11_most_87 : decode cX11_most 87 = .ok (.ifCond .eq 50, 3) := by decide +kernel
theorem dX11_most_90 : decode cX11_most 90 = .ok (.aload_n 0, 1) := by decide +kernel
theorem dX11_most_91 : decode cX11_most 91 = .ok (.getfield 38, 3) := by decide +kernel
theorem dX11_most_94 : decode cX11_most 94 = .ok (.sipush 1312, 3) := by decide +kernel
theorem dX11_most_97 : decode cX11_most 97 = .ok (.iload_n 3, 1) := by decide +kernel
theorem dX11_most_98 : decode cX11_most 98 = .ok (.bipush 8, 2) := by decide +kernel
theorem dX11_most_100 : decode cX11_most 100 = .ok (.imul, 1) := by decide +kernel
theorem dX11_most_101 : decode cX11_most 101 = .ok (.iadd, 1) := by decide +kernel
theorem dX11_most_102 : decode cX11_most 102 = .ok (.iconst 4, 1) := by decide +kernel
theorem dX11_most_103 : decode cX11_most 103 = .ok (.iadd, 1) := by decide +kernel
theorem dX11_most_104 : decode cX11_most 104 = .ok (.iaload, 1) := by decide +kernel
theorem dX11_most_105 : decode cX11_most 105 = .ok (.invokestatic 133, 3) := by decide +kernel
theorem dX11_most_108 : decode cX11_most 108 = .ok (.istore 6, 2) := by decide +kernel
theorem dX11_most_110 : decode cX11_most 110 = .ok (.iload 6, 2) := by decide +kernel
theorem dX11_most_112 : decode cX11_most 112 = .ok (.iload 4, 2) := by decide +kernel
theorem dX11_most_114 : decode cX11_most 114 = .ok (.if_icmp .le 12, 3) := by decide +kernel
theorem dX11_most_117 : decode cX11_most 117 = .ok (.iload 6, 2) := by decide +kernel
theorem dX11_most_119 : decode cX11_most 119 = .ok (.istore 4, 2) := by decide +kernel
theorem dX11_most_121 : decode cX11_most 121 = .ok (.aload_n 0, 1) := by decide +kernel
theorem dX11_most_122 : decode cX11_most 122 = .ok (.iload_n 3, 1) := by decide +kernel
theorem dX11_most_123 : decode cX11_most 123 = .ok (.invokevirtual 178, 3) := by decide +kernel
theorem dX11_most_126 : decode cX11_most 126 = .ok (.aload_n 0, 1) := by decide +kernel
theorem dX11_most_127 : decode cX11_most 127 = .ok (.iload_n 3, 1) := by decide +kernel
theorem dX11_most_128 : decode cX11_most 128 = .ok (.iconst 0, 1) := by decide +kernel
theorem dX11_most_129 : decode cX11_most 129 = .ok (.invokevirtual 174, 3) := by decide +kernel
theorem dX11_most_132 : decode cX11_most 132 = .ok (.istore 5, 2) := by decide +kernel
theorem dX11_most_134 : decode cX11_most 134 = .ok (.goto (-49), 3) := by decide +kernel
theorem dX11_most_137 : decode cX11_most 137 = .ok (.aload_n 0, 1) := by decide +kernel
theorem dX11_most_138 : decode cX11_most 138 = .ok (.iload_n 2, 1) := by decide +kernel
theorem dX11_most_139 : decode cX11_most 139 = .ok (.iload_n 3, 1) := by decide +kernel
theorem dX11_most_140 : decode cX11_most 140 = .ok (.invokevirtual 182, 3) := by decide +kernel
theorem dX11_most_143 : decode cX11_most 143 = .ok (.iload 4, 2) := by decide +kernel
theorem dX11_most_145 : decode cX11_most 145 = .ok (.ireturn, 1) := by decide +kernel
theorem dX11_which_0 : decode cX11_which 0 = .ok (.aload_n 0, 1) := by decide +kernel
theorem dX11_which_1 : decode cX11_which 1 = .ok (.iload_n 1, 1) := by decide +kernel
theorem dX11_which_2 : decode cX11_which 2 = .ok (.invokevirtual 152, 3) := by decide +kernel
theorem dX11_which_5 : decode cX11_which 5 = .ok (.ifCond .eq 15, 3) := by decide +kernel
theorem dX11_which_8 : decode cX11_which 8 = .ok (.iload_n 2, 1) := by decide +kernel
theorem dX11_which_9 : decode cX11_which 9 = .ok (.i2l, 1) := by decide +kernel
theorem dX11_which_10 : decode cX11_which 10 = .ok (.lconst 0, 1) := by decide +kernel
theorem dX11_which_11 : decode cX11_which 11 = .ok (.ldc2_w 185, 3) := by decide +kernel
theorem dX11_which_14 : decode cX11_which 14 = .ok (.invokestatic 69, 3) := by decide +kernel
theorem dX11_which_17 : decode cX11_which 17 = .ok (.ifCond .ne 5, 3) := by decide +kernel
theorem dX11_which_20 : decode cX11_which 20 = .ok (.iconst (-1), 1) := by decide +kernel
theorem dX11_which_21 : decode cX11_which 21 = .ok (.ireturn, 1) := by decide +kernel
theorem dX11_which_22 : decode cX11_which 22 = .ok (.iconst 0, 1) := by decide +kernel
theorem dX11_which_23 : decode cX11_which 23 = .ok (.istore_n 3, 1) := by decide +kernel
theorem dX11_which_24 : decode cX11_which 24 = .ok (.iconst 1, 1) := by decide +kernel
theorem dX11_which_25 : decode cX11_which 25 = .ok (.istore 4, 2) := by decide +kernel
theorem dX11_which_27 : decode cX11_which 27 = .ok (.iload 4, 2) := by decide +kernel
theorem dX11_which_29 : decode cX11_which 29 = .ok (.bipush 13, 2) := by decide +kernel
theorem dX11_which_31 : decode cX11_which 31 = .ok (.if_icmp .ge 79, 3) := by decide +kernel
theorem dX11_which_34 : decode cX11_which 34 = .ok (.aload_n 0, 1) := by decide +kernel
theorem dX11_which_35 : decode cX11_which 35 = .ok (.getfield 38, 3) := by decide +kernel
theorem dX11_which_38 : decode cX11_which 38 = .ok (.iload_n 1, 1) := by decide +kernel
theorem dX11_which_39 : decode cX11_which 39 = .ok (.iaload, 1) := by decide +kernel
theorem dX11_which_40 : decode cX11_which 40 = .ok (.aload_n 0, 1) := by decide +kernel
theorem dX11_which_41 : decode cX11_which 41 = .ok (.iload_n 1, 1) := by decide +kernel
theorem dX11_which_42 : decode cX11_which 42 = .ok (.aload_n 0, 1) := by decide +kernel
theorem dX11_which_43 : decode cX11_which 43 = .ok (.getfield 26, 3) := by decide +kernel
theorem dX11_which_46 : decode cX11_which 46 = .ok (.iload_n 1, 1) := by decide +kernel
theorem dX11_which_47 : decode cX11_which 47 = .ok (.iaload, 1) := by decide +kernel
theorem dX11_which_48 : decode cX11_which 48 = .ok (.iload 4, 2) := by decide +kernel
theorem dX11_which_50 : decode cX11_which 50 = .ok (.aload_n 0, 1) := by decide +kernel
theorem dX11_which_51 : decode cX11_which 51 = .ok (.getfield 38, 3) := by decide +kernel
theorem dX11_which_54 : decode cX11_which 54 = .ok (.bipush 7, 2) := by decide +kernel
theorem dX11_which_56 : decode cX11_which 56 = .ok (.iaload, 1) := by decide +kernel
theorem dX11_which_57 : decode cX11_which 57 = .ok (.aload_n 0, 1) := by decide +kernel
theorem dX11_which_58 : decode cX11_which 58 = .ok (.getfield 38, 3) := by decide +kernel
theorem dX11_which_61 : decode cX11_which 61 = .ok (.bipush 6, 2) := by decide +kernel
theorem dX11_which_63 : decode cX11_which 63 = .ok (.iaload, 1) := by decide +kernel
theorem dX11_which_64 : decode cX11_which 64 = .ok (.invokestatic 142, 3) := by decide +kernel
theorem dX11_which_67 : decode cX11_which 67 = .ok (.invokevirtual 146, 3) := by decide +kernel
theorem dX11_which_70 : decode cX11_which 70 = .ok (.ior, 1) := by decide +kernel
theorem dX11_which_71 : decode cX11_which 71 = .ok (.istore 5, 2) := by decide +kernel
theorem dX11_which_73 : decode cX11_which 73 = .ok (.iload_n 3, 1) := by decide +kernel
theorem dX11_which_74 : decode cX11_which 74 = .ok (.aload_n 0, 1) := by decide +kernel
theorem dX11_which_75 : decode cX11_which 75 = .ok (.getfield 38, 3) := by decide +kernel
theorem dX11_which_78 : decode cX11_which 78 = .ok (.iconst 5, 1) := by decide +kernel
theorem dX11_which_79 : decode cX11_which 79 = .ok (.iaload, 1) := by decide +kernel
theorem dX11_which_80 : decode cX11_which 80 = .ok (.iload 4, 2) := by decide +kernel
theorem dX11_which_82 : decode cX11_which 82 = .ok (.invokestatic 139, 3) := by decide +kernel
theorem dX11_which_85 : decode cX11_which 85 = .ok (.ifCond .eq 16, 3) := by decide +kernel
theorem dX11_which_88 : decode cX11_which 88 = .ok (.iload 5, 2) := by decide +kernel
theorem dX11_which_90 : decode cX11_which 90 = .ok (.iload_n 2, 1) := by decide +kernel
theorem dX11_which_91 : decode cX11_which 91 = .ok (.if_icmp .ne 10, 3) := by decide +kernel
theorem dX11_which_94 : decode cX11_which 94 = .ok (.iconst 1, 1) := by decide +kernel
theorem dX11_which_95 : decode cX11_which 95 = .ok (.iload 4, 2) := by decide +kernel
theorem dX11_which_97 : decode cX11_which 97 = .ok (.ishl, 1) := by decide +kernel
theorem dX11_which_98 : decode cX11_which 98 = .ok (.goto 4, 3) := by decide +kernel
theorem dX11_which_101 : decode cX11_which 101 = .ok (.iconst 0, 1) := by decide +kernel
theorem dX11_which_102 : decode cX11_which 102 = .ok (.ior, 1) := by decide +kernel
theorem dX11_which_103 : decode cX11_which 103 = .ok (.istore_n 3, 1) := by decide +kernel
theorem dX11_which_104 : decode cX11_which 104 = .ok (.iinc 4 1, 3) := by decide +kernel
theorem dX11_which_107 : decode cX11_which 107 = .ok (.goto (-80), 3) := by decide +kernel
theorem dX11_which_110 : decode cX11_which 110 = .ok (.iload_n 3, 1) := by decide +kernel
theorem dX11_which_111 : decode cX11_which 111 = .ok (.ireturn, 1) := by decide +kernel
theorem dX11_wrongOf_0 : decode cX11_wrongOf 0 = .ok (.aload_n 0, 1) := by decide +kernel
theorem dX11_wrongOf_1 : decode cX11_wrongOf 1 = .ok (.getfield 7, 3) := by decide +kernel
theorem dX11_wrongOf_4 : decode cX11_wrongOf 4 = .ok (.iload_n 1, 1) := by decide +kernel
theorem dX11_wrongOf_5 : decode cX11_wrongOf 5 = .ok (.iaload, 1) := by decide +kernel
theorem dX11_wrongOf_6 : decode cX11_wrongOf 6 = .ok (.ifCond .ge 5, 3) := by decide +kernel
theorem dX11_wrongOf_9 : decode cX11_wrongOf 9 = .ok (.iconst 1, 1) := by decide +kernel
theorem dX11_wrongOf_10 : decode cX11_wrongOf 10 = .ok (.ireturn, 1) := by decide +kernel
theorem dX11_wrongOf_11 : decode cX11_wrongOf 11 = .ok (.aload_n 0, 1) := by decide +kernel
theorem dX11_wrongOf_12 : decode cX11_wrongOf 12 = .ok (.getfield 7, 3) := by decide +kernel
theorem dX11_wrongOf_15 : decode cX11_wrongOf 15 = .ok (.iload_n 1, 1) := by decide +kernel
theorem dX11_wrongOf_16 : decode cX11_wrongOf 16 = .ok (.iaload, 1) := by decide +kernel
theorem dX11_wrongOf_17 : decode cX11_wrongOf 17 = .ok (.bipush 16, 2) := by decide +kernel
theorem dX11_wrongOf_19 : decode cX11_wrongOf 19 = .ok (.if_icmp .gt 15, 3) := by decide +kernel
theorem dX11_wrongOf_22 : decode cX11_wrongOf 22 = .ok (.aload_n 0, 1) := by decide +kernel
theorem dX11_wrongOf_23 : decode cX11_wrongOf 23 = .ok (.getfield 7, 3) := by decide +kernel
theorem dX11_wrongOf_26 : decode cX11_wrongOf 26 = .ok (.iload_n 1, 1) := by decide +kernel
theorem dX11_wrongOf_27 : decode cX11_wrongOf 27 = .ok (.iaload, 1) := by decide +kernel
theorem dX11_wrongOf_28 : decode cX11_wrongOf 28 = .ok (.iconst 2, 1) := by decide +kernel
theorem dX11_wrongOf_29 : decode cX11_wrongOf 29 = .ok (.irem, 1) := by decide +kernel
theorem dX11_wrongOf_30 : decode cX11_wrongOf 30 = .ok (.iconst 1, 1) := by decide +kernel
theorem dX11_wrongOf_31 : decode cX11_wrongOf 31 = .ok (.if_icmp .ne 5, 3) := by decide +kernel
theorem dX11_wrongOf_34 : decode cX11_wrongOf 34 = .ok (.iconst 5, 1) := by decide +kernel
theorem dX11_wrongOf_35 : decode cX11_wrongOf 35 = .ok (.ireturn, 1) := by decide +kernel
theorem dX11_wrongOf_36 : decode cX11_wrongOf 36 = .ok (.iconst 0, 1) := by decide +kernel
theorem dX11_wrongOf_37 : decode cX11_wrongOf 37 = .ok (.istore_n 2, 1) := by decide +kernel
theorem dX11_wrongOf_38 : decode cX11_wrongOf 38 = .ok (.iload_n 2, 1) := by decide +kernel
theorem dX11_wrongOf_39 : decode cX11_wrongOf 39 = .ok (.aload_n 0, 1) := by decide +kernel
theorem dX11_wrongOf_40 : decode cX11_wrongOf 40 = .ok (.getfield 7, 3) := by decide +kernel
theorem dX11_wrongOf_43 : decode cX11_wrongOf 43 = .ok (.iload_n 1, 1) := by decide +kernel
theorem dX11_wrongOf_44 : decode cX11_wrongOf 44 = .ok (.iaload, 1) := by decide +kernel
theorem dX11_wrongOf_45 : decode cX11_wrongOf 45 = .ok (.if_icmp .ge 55, 3) := by decide +kernel
theorem dX11_wrongOf_48 : decode cX11_wrongOf 48 = .ok (.aload_n 0, 1) := by decide +kernel
theorem dX11_wrongOf_49 : decode cX11_wrongOf 49 = .ok (.getfield 13, 3) := by decide +kernel
theorem dX11_wrongOf_52 : decode cX11_wrongOf 52 = .ok (.bipush 40, 2) := by decide +kernel
theorem dX11_wrongOf_54 : decode cX11_wrongOf 54 = .ok (.iload_n 1, 1) := by decide +kernel
theorem dX11_wrongOf_55 : decode cX11_wrongOf 55 = .ok (.imul, 1) := by decide +kernel
theorem dX11_wrongOf_56 : decode cX11_wrongOf 56 = .ok (.iload_n 2, 1) := by decide +kernel
theorem dX11_wrongOf_57 : decode cX11_wrongOf 57 = .ok (.iadd, 1) := by decide +kernel
theorem dX11_wrongOf_58 : decode cX11_wrongOf 58 = .ok (.iaload, 1) := by decide +kernel
theorem dX11_wrongOf_59 : decode cX11_wrongOf 59 = .ok (.i2l, 1) := by decide +kernel
theorem dX11_wrongOf_60 : decode cX11_wrongOf 60 = .ok (.iload_n 2, 1) := by decide +kernel
theorem dX11_wrongOf_61 : decode cX11_wrongOf 61 = .ok (.iconst 2, 1) := by decide +kernel
theorem dX11_wrongOf_62 : decode cX11_wrongOf 62 = .ok (.irem, 1) := by decide +kernel
theorem dX11_wrongOf_63 : decode cX11_wrongOf 63 = .ok (.ifCond .ne 7, 3) := by decide +kernel
theorem dX11_wrongOf_66 : decode cX11_wrongOf 66 = .ok (.lconst 1, 1) := by decide +kernel
theorem dX11_wrongOf_67 : decode cX11_wrongOf 67 = .ok (.goto 4, 3) := by decide +kernel
theorem dX11_wrongOf_70 : decode cX11_wrongOf 70 = .ok (.lconst 0, 1) := by decide +kernel
theorem dX11_wrongOf_71 : decode cX11_wrongOf 71 = .ok (.iload_n 2, 1) := by decide +kernel
theorem dX11_wrongOf_72 : decode cX11_wrongOf 72 = .ok (.iconst 2, 1) := by decide +kernel
theorem dX11_wrongOf_73 : decode cX11_wrongOf 73 = .ok (.irem, 1) := by decide +kernel
theorem dX11_wrongOf_74 : decode cX11_wrongOf 74 = .ok (.ifCond .ne 9, 3) := by decide +kernel
theorem dX11_wrongOf_77 : decode cX11_wrongOf 77 = .ok (.ldc2_w 105, 3) := by decide +kernel
theorem dX11_wrongOf_80 : decode cX11_wrongOf 80 = .ok (.goto 6, 3) := by decide +kernel
theorem dX11_wrongOf_83 : decode cX11_wrongOf 83 = .ok (.ldc2_w 187, 3) := by decide +kernel
theorem dX11_wrongOf_86 : decode cX11_wrongOf 86 = .ok (.invokestatic 69, 3) := by decide +kernel
theorem dX11_wrongOf_89 : decode cX11_wrongOf 89 = .ok (.ifCond .ne 5, 3) := by decide +kernel
theorem dX11_wrongOf_92 : decode cX11_wrongOf 92 = .ok (.iconst 3, 1) := by decide +kernel
theorem dX11_wrongOf_93 : decode cX11_wrongOf 93 = .ok (.ireturn, 1) := by decide +kernel
theorem dX11_wrongOf_94 : decode cX11_wrongOf 94 = .ok (.iinc 2 1, 3) := by decide +kernel
theorem dX11_wrongOf_97 : decode cX11_wrongOf 97 = .ok (.goto (-59), 3) := by decide +kernel
theorem dX11_wrongOf_100 : decode cX11_wrongOf 100 = .ok (.iconst 0, 1) := by decide +kernel
theorem dX11_wrongOf_101 : decode cX11_wrongOf 101 = .ok (.ireturn, 1) := by decide +kernel
theorem dX11_kindsBy_0 : decode cX11_kindsBy 0 = .ok (.aload_n 0, 1) := by decide +kernel
theorem dX11_kindsBy_1 : decode cX11_kindsBy 1 = .ok (.getfield 26, 3) := by decide +kernel
theorem dX11_kindsBy_4 : decode cX11_kindsBy 4 = .ok (.iload_n 1, 1) := by decide +kernel
theorem dX11_kindsBy_5 : decode cX11_kindsBy 5 = .ok (.iaload, 1) := by decide +kernel
theorem dX11_kindsBy_6 : decode cX11_kindsBy 6 = .ok (.istore_n 3, 1) := by decide +kernel
theorem dX11_kindsBy_7 : decode cX11_kindsBy 7 = .ok (.iconst 0, 1) := by decide +kernel
theorem dX11_kindsBy_8 : decode cX11_kindsBy 8 = .ok (.istore 4, 2) := by decide +kernel
theorem dX11_kindsBy_10 : decode cX11_kindsBy 10 = .ok (.iconst 0, 1) := by decide +kernel
theorem dX11_kindsBy_11 : decode cX11_kindsBy 11 = .ok (.istore 5, 2) := by decide +kernel
theorem dX11_kindsBy_13 : decode cX11_kindsBy 13 = .ok (.iload 5, 2) := by decide +kernel
theorem dX11_kindsBy_15 : decode cX11_kindsBy 15 = .ok (.bipush 6, 2) := by decide +kernel
theorem dX11_kindsBy_17 : decode cX11_kindsBy 17 = .ok (.if_icmp .ge 154, 3) := by decide +kernel
theorem dX11_kindsBy_20 : decode cX11_kindsBy 20 = .ok (.aload_n 0, 1) := by decide +kernel
theorem dX11_kindsBy_21 : decode cX11_kindsBy 21 = .ok (.getfield 26, 3) := by decide +kernel
theorem dX11_kindsBy_24 : decode cX11_kindsBy 24 = .ok (.iload_n 1, 1) := by decide +kernel
theorem dX11_kindsBy_25 : decode cX11_kindsBy 25 = .ok (.iload 5, 2) := by decide +kernel
theorem dX11_kindsBy_27 : decode cX11_kindsBy 27 = .ok (.iastore, 1) := by decide +kernel
theorem dX11_kindsBy_28 : decode cX11_kindsBy 28 = .ok (.aload_n 0, 1) := by decide +kernel
theorem dX11_kindsBy_29 : decode cX11_kindsBy 29 = .ok (.iconst 0, 1) := by decide +kernel
theorem dX11_kindsBy_30 : decode cX11_kindsBy 30 = .ok (.sipush 1312, 3) := by decide +kernel
theorem dX11_kindsBy_33 : decode cX11_kindsBy 33 = .ok (.bipush 8, 2) := by decide +kernel
theorem dX11_kindsBy_35 : decode cX11_kindsBy 35 = .ok (.invokevirtual 160, 3) := by decide +kernel
theorem dX11_kindsBy_38 : decode cX11_kindsBy 38 = .ok (.iconst 1, 1) := by decide +kernel
theorem dX11_kindsBy_39 : decode cX11_kindsBy 39 = .ok (.istore 6, 2) := by decide +kernel
theorem dX11_kindsBy_41 : decode cX11_kindsBy 41 = .ok (.iconst 0, 1) := by decide +kernel
theorem dX11_kindsBy_42 : decode cX11_kindsBy 42 = .ok (.istore 7, 2) := by decide +kernel
theorem dX11_kindsBy_44 : decode cX11_kindsBy 44 = .ok (.iload 7, 2) := by decide +kernel
theorem dX11_kindsBy_46 : decode cX11_kindsBy 46 = .ok (.aload_n 0, 1) := by decide +kernel
theorem dX11_kindsBy_47 : decode cX11_kindsBy 47 = .ok (.getfield 7, 3) := by decide +kernel
theorem dX11_kindsBy_50 : decode cX11_kindsBy 50 = .ok (.iload_n 2, 1) := by decide +kernel
theorem dX11_kindsBy_51 : decode cX11_kindsBy 51 = .ok (.iaload, 1) := by decide +kernel
theorem dX11_kindsBy_52 : decode cX11_kindsBy 52 = .ok (.if_icmp .ge 95, 3) := by decide +kernel
theorem dX11_kindsBy_55 : decode cX11_kindsBy 55 = .ok (.iload 6, 2) := by decide +kernel
theorem dX11_kindsBy_57 : decode cX11_kindsBy 57 = .ok (.ifCond .eq 90, 3) := by decide +kernel
theorem dX11_kindsBy_60 : decode cX11_kindsBy 60 = .ok (.aload_n 0, 1) := by decide +kernel
theorem dX11_kindsBy_61 : decode cX11_kindsBy 61 = .ok (.getfield 13, 3) := by decide +kernel
theorem dX11_kindsBy_64 : decode cX11_kindsBy 64 = .ok (.bipush 40, 2) := by decide +kernel
theorem dX11_kindsBy_66 : decode cX11_kindsBy 66 = .ok (.iload_n 2, 1) := by decide +kernel
theorem dX11_kindsBy_67 : decode cX11_kindsBy 67 = .ok (.imul, 1) := by decide +kernel
theorem dX11_kindsBy_68 : decode cX11_kindsBy 68 = .ok (.iload 7, 2) := by decide +kernel
theorem dX11_kindsBy_70 : decode cX11_kindsBy 70 = .ok (.iadd, 1) := by decide +kernel
theorem dX11_kindsBy_71 : decode cX11_kindsBy 71 = .ok (.iaload, 1) := by decide +kernel
theorem dX11_kindsBy_72 : decode cX11_kindsBy 72 = .ok (.istore 8, 2) := by decide +kernel
theorem dX11_kindsBy_74 : decode cX11_kindsBy 74 = .ok (.aload_n 0, 1) := by decide +kernel
theorem dX11_kindsBy_75 : decode cX11_kindsBy 75 = .ok (.getfield 38, 3) := by decide +kernel
theorem dX11_kindsBy_78 : decode cX11_kindsBy 78 = .ok (.sipush 1317, 3) := by decide +kernel
theorem dX11_kindsBy_81 : decode cX11_kindsBy 81 = .ok (.iaload, 1) := by decide +kernel
theorem dX11_kindsBy_82 : decode cX11_kindsBy 82 = .ok (.iload 8, 2) := by decide +kernel
theorem dX11_kindsBy_84 : decode cX11_kindsBy 84 = .ok (.invokestatic 139, 3) := by decide +kernel
theorem dX11_kindsBy_87 : decode cX11_kindsBy 87 = .ok (.istore 6, 2) := by decide +kernel
theorem dX11_kindsBy_89 : decode cX11_kindsBy 89 = .ok (.iload 6, 2) := by decide +kernel
theorem dX11_kindsBy_91 : decode cX11_kindsBy 91 = .ok (.ifCond .eq 50, 3) := by decide +kernel
theorem dX11_kindsBy_94 : decode cX11_kindsBy 94 = .ok (.aload_n 0, 1) := by decide +kernel
theorem dX11_kindsBy_95 : decode cX11_kindsBy 95 = .ok (.sipush 1312, 3) := by decide +kernel
theorem dX11_kindsBy_98 : decode cX11_kindsBy 98 = .ok (.iload 8, 2) := by decide +kernel
theorem dX11_kindsBy_100 : decode cX11_kindsBy 100 = .ok (.invokevirtual 167, 3) := by decide +kernel
theorem dX11_kindsBy_103 : decode cX11_kindsBy 103 = .ok (.pop, 1) := by decide +kernel
theorem dX11_kindsBy_104 : decode cX11_kindsBy 104 = .ok (.aload_n 0, 1) := by decide +kernel
theorem dX11_kindsBy_105 : decode cX11_kindsBy 105 = .ok (.getfield 38, 3) := by decide +kernel
theorem dX11_kindsBy_108 : decode cX11_kindsBy 108 = .ok (.sipush 1312, 3) := by decide +kernel
theorem dX11_kindsBy_111 : decode cX11_kindsBy 111 = .ok (.iload_n 1, 1) := by decide +kernel
theorem dX11_kindsBy_112 : decode cX11_kindsBy 112 = .ok (.iadd, 1) := by decide +kernel
theorem dX11_kindsBy_113 : decode cX11_kindsBy 113 = .ok (.iaload, 1) := by decide +kernel
theorem dX11_kindsBy_114 : decode cX11_kindsBy 114 = .ok (.invokestatic 133, 3) := by decide +kernel
theorem dX11_kindsBy_117 : decode cX11_kindsBy 117 = .ok (.aload_n 0, 1) := by decide +kernel
theorem dX11_kindsBy_118 : decode cX11_kindsBy 118 = .ok (.getfield 13, 3) := by decide +kernel
theorem dX11_kindsBy_121 : decode cX11_kindsBy 121 = .ok (.bipush 40, 2) := by decide +kernel
theorem dX11_kindsBy_123 : decode cX11_kindsBy 123 = .ok (.iload_n 2, 1) := by decide +kernel
theorem dX11_kindsBy_124 : decode cX11_kindsBy 124 = .ok (.imul, 1) := by decide +kernel
theorem dX11_kindsBy_125 : decode cX11_kindsBy 125 = .ok (.iload 7, 2) := by decide +kernel
theorem dX11_kindsBy_127 : decode cX11_kindsBy 127 = .ok (.iadd, 1) := by decide +kernel
theorem dX11_kindsBy_128 : decode cX11_kindsBy 128 = .ok (.iconst 1, 1) := by decide +kernel
theorem dX11_kindsBy_129 : decode cX11_kindsBy 129 = .ok (.iadd, 1) := by decide +kernel
theorem dX11_kindsBy_130 : decode cX11_kindsBy 130 = .ok (.iaload, 1) := by decide +kernel
theorem dX11_kindsBy_131 : decode cX11_kindsBy 131 = .ok (.if_icmp .ne 7, 3) := by decide +kernel
theorem dX11_kindsBy_134 : decode cX11_kindsBy 134 = .ok (.iconst 1, 1) := by decide +kernel
theorem dX11_kindsBy_135 : decode cX11_kindsBy 135 = .ok (.goto 4, 3) := by decide +kernel
theorem dX11_kindsBy_138 : decode cX11_kindsBy 138 = .ok (.iconst 0, 1) := by decide +kernel
theorem dX11_kindsBy_139 : decode cX11_kindsBy 139 = .ok (.istore 6, 2) := by decide +kernel
theorem dX11_kindsBy_141 : decode cX11_kindsBy 141 = .ok (.iinc 7 2, 3) := by decide +kernel
theorem dX11_kindsBy_144 : decode cX11_kindsBy 144 = .ok (.goto (-100), 3) := by decide +kernel
theorem dX11_kindsBy_147 : decode cX11_kindsBy 147 = .ok (.iload 4, 2) := by decide +kernel
theorem dX11_kindsBy_149 : decode cX11_kindsBy 149 = .ok (.iload 6, 2) := by decide +kernel
theorem dX11_kindsBy_151 : decode cX11_kindsBy 151 = .ok (.ifCond .eq 10, 3) := by decide +kernel
theorem dX11_kindsBy_154 : decode cX11_kindsBy 154 = .ok (.iconst 1, 1) := by decide +kernel
theorem dX11_kindsBy_155 : decode cX11_kindsBy 155 = .ok (.iload 5, 2) := by decide +kernel
theorem dX11_kindsBy_157 : decode cX11_kindsBy 157 = .ok (.ishl, 1) := by decide +kernel
theorem dX11_kindsBy_158 : decode cX11_kindsBy 158 = .ok (.goto 4, 3) := by decide +kernel
theorem dX11_kindsBy_161 : decode cX11_kindsBy 161 = .ok (.iconst 0, 1) := by decide +kernel
theorem dX11_kindsBy_162 : decode cX11_kindsBy 162 = .ok (.ior, 1) := by decide +kernel
theorem dX11_kindsBy_163 : decode cX11_kindsBy 163 = .ok (.istore 4, 2) := by decide +kernel
theorem dX11_kindsBy_165 : decode cX11_kindsBy 165 = .ok (.iinc 5 1, 3) := by decide +kernel
theorem dX11_kindsBy_168 : decode cX11_kindsBy 168 = .ok (.goto (-155), 3) := by decide +kernel
theorem dX11_kindsBy_171 : decode cX11_kindsBy 171 = .ok (.aload_n 0, 1) := by decide +kernel
theorem dX11_kindsBy_172 : decode cX11_kindsBy 172 = .ok (.getfield 26, 3) := by decide +kernel
theorem dX11_kindsBy_175 : decode cX11_kindsBy 175 = .ok (.iload_n 1, 1) := by decide +kernel
theorem dX11_kindsBy_176 : decode cX11_kindsBy 176 = .ok (.iload_n 3, 1) := by decide +kernel
theorem dX11_kindsBy_177 : decode cX11_kindsBy 177 = .ok (.iastore, 1) := by decide +kernel
theorem dX11_kindsBy_178 : decode cX11_kindsBy 178 = .ok (.iload 4, 2) := by decide +kernel
theorem dX11_kindsBy_180 : decode cX11_kindsBy 180 = .ok (.ireturn, 1) := by decide +kernel
theorem dX11_kinds_0 : decode cX11_kinds 0 = .ok (.aload_n 0, 1) := by decide +kernel
theorem dX11_kinds_1 : decode cX11_kinds 1 = .ok (.iload_n 1, 1) := by decide +kernel
theorem dX11_kinds_2 : decode cX11_kinds 2 = .ok (.invokevirtual 152, 3) := by decide +kernel
theorem dX11_kinds_5 : decode cX11_kinds 5 = .ok (.ifCond .eq 11, 3) := by decide +kernel
theorem dX11_kinds_8 : decode cX11_kinds 8 = .ok (.aload_n 0, 1) := by decide +kernel
theorem dX11_kinds_9 : decode cX11_kinds 9 = .ok (.iload_n 2, 1) := by decide +kernel
theorem dX11_kinds_10 : decode cX11_kinds 10 = .ok (.invokevirtual 75, 3) := by decide +kernel
theorem dX11_kinds_13 : decode cX11_kinds 13 = .ok (.ifCond .ne 5, 3) := by decide +kernel
theorem dX11_kinds_16 : decode cX11_kinds 16 = .ok (.iconst (-1), 1) := by decide +kernel
theorem dX11_kinds_17 : decode cX11_kinds 17 = .ok (.ireturn, 1) := by decide +kernel
theorem dX11_kinds_18 : decode cX11_kinds 18 = .ok (.aload_n 0, 1) := by decide +kernel
theorem dX11_kinds_19 : decode cX11_kinds 19 = .ok (.iload_n 2, 1) := by decide +kernel
theorem dX11_kinds_20 : decode cX11_kinds 20 = .ok (.invokevirtual 189, 3) := by decide +kernel
theorem dX11_kinds_23 : decode cX11_kinds 23 = .ok (.istore_n 3, 1) := by decide +kernel
theorem dX11_kinds_24 : decode cX11_kinds 24 = .ok (.iload_n 3, 1) := by decide +kernel
theorem dX11_kinds_25 : decode cX11_kinds 25 = .ok (.ifCond .le 11, 3) := by decide +kernel
theorem dX11_kinds_28 : decode cX11_kinds 28 = .ok (.aload_n 0, 1) := by decide +kernel
theorem dX11_kinds_29 : decode cX11_kinds 29 = .ok (.iload_n 3, 1) := by decide +kernel
theorem dX11_kinds_30 : decode cX11_kinds 30 = .ok (.invokevirtual 79, 3) := by decide +kernel
theorem dX11_kinds_33 : decode cX11_kinds 33 = .ok (.goto 9, 3) := by decide +kernel
theorem dX11_kinds_36 : decode cX11_kinds 36 = .ok (.aload_n 0, 1) := by decide +kernel
theorem dX11_kinds_37 : decode cX11_kinds 37 = .ok (.iload_n 1, 1) := by decide +kernel
theorem dX11_kinds_38 : decode cX11_kinds 38 = .ok (.iload_n 2, 1) := by decide +kernel
theorem dX11_kinds_39 : decode cX11_kinds 39 = .ok (.invokevirtual 192, 3) := by decide +kernel
theorem dX11_kinds_42 : decode cX11_kinds 42 = .ok (.ireturn, 1) := by decide +kernel
theorem dX11_part_0 : decode cX11_part 0 = .ok (.iconst 0, 1) := by decide +kernel
theorem dX11_part_1 : decode cX11_part 1 = .ok (.istore 4, 2) := by decide +kernel
theorem dX11_part_3 : decode cX11_part 3 = .ok (.iconst 0, 1) := by decide +kernel
theorem dX11_part_4 : decode cX11_part 4 = .ok (.istore 5, 2) := by decide +kernel
theorem dX11_part_6 : decode cX11_part 6 = .ok (.iload 5, 2) := by decide +kernel
theorem dX11_part_8 : decode cX11_part 8 = .ok (.bipush 7, 2) := by decide +kernel
theorem dX11_part_10 : decode cX11_part 10 = .ok (.if_icmp .ge 100, 3) := by decide +kernel
theorem dX11_part_13 : decode cX11_part 13 = .ok (.iconst 0, 1) := by decide +kernel
theorem dX11_part_14 : decode cX11_part 14 = .ok (.istore 6, 2) := by decide +kernel
theorem dX11_part_16 : decode cX11_part 16 = .ok (.iconst 0, 1) := by decide +kernel
theorem dX11_part_17 : decode cX11_part 17 = .ok (.istore 7, 2) := by decide +kernel
theorem dX11_part_19 : decode cX11_part 19 = .ok (.iload 7, 2) := by decide +kernel
theorem dX11_part_21 : decode cX11_part 21 = .ok (.bipush 6, 2) := by decide +kernel
theorem dX11_part_23 : decode cX11_part 23 = .ok (.if_icmp .ge 72, 3) := by decide +kernel
theorem dX11_part_26 : decode cX11_part 26 = .ok (.aload_n 0, 1) := by decide +kernel
theorem dX11_part_27 : decode cX11_part 27 = .ok (.getfield 38, 3) := by decide +kernel
theorem dX11_part_30 : decode cX11_part 30 = .ok (.iload_n 1, 1) := by decide +kernel
theorem dX11_part_31 : decode cX11_part 31 = .ok (.iaload, 1) := by decide +kernel
theorem dX11_part_32 : decode cX11_part 32 = .ok (.aload_n 0, 1) := by decide +kernel
theorem dX11_part_33 : decode cX11_part 33 = .ok (.iload_n 1, 1) := by decide +kernel
theorem dX11_part_34 : decode cX11_part 34 = .ok (.iload 7, 2) := by decide +kernel
theorem dX11_part_36 : decode cX11_part 36 = .ok (.iload_n 3, 1) := by decide +kernel
theorem dX11_part_37 : decode cX11_part 37 = .ok (.aload_n 0, 1) := by decide +kernel
theorem dX11_part_38 : decode cX11_part 38 = .ok (.getfield 38, 3) := by decide +kernel
theorem dX11_part_41 : decode cX11_part 41 = .ok (.bipush 7, 2) := by decide +kernel
theorem dX11_part_43 : decode cX11_part 43 = .ok (.iaload, 1) := by decide +kernel
theorem dX11_part_44 : decode cX11_part 44 = .ok (.aload_n 0, 1) := by decide +kernel
theorem dX11_part_45 : decode cX11_part 45 = .ok (.getfield 38, 3) := by decide +kernel
theorem dX11_part_48 : decode cX11_part 48 = .ok (.bipush 6, 2) := by decide +kernel
theorem dX11_part_50 : decode cX11_part 50 = .ok (.iaload, 1) := by decide +kernel
theorem dX11_part_51 : decode cX11_part 51 = .ok (.invokestatic 142, 3) := by decide +kernel
theorem dX11_part_54 : decode cX11_part 54 = .ok (.invokevirtual 146, 3) := by decide +kernel
theorem dX11_part_57 : decode cX11_part 57 = .ok (.ior, 1) := by decide +kernel
theorem dX11_part_58 : decode cX11_part 58 = .ok (.istore 8, 2) := by decide +kernel
theorem dX11_part_60 : decode cX11_part 60 = .ok (.iload 6, 2) := by decide +kernel
theorem dX11_part_62 : decode cX11_part 62 = .ok (.iload_n 2, 1) := by decide +kernel
theorem dX11_part_63 : decode cX11_part 63 = .ok (.iload 7, 2) := by decide +kernel
theorem dX11_part_65 : decode cX11_part 65 = .ok (.invokestatic 139, 3) := by decide +kernel
theorem dX11_part_68 : decode cX11_part 68 = .ok (.ifCond .eq 17, 3) := by decide +kernel
theorem dX11_part_71 : decode cX11_part 71 = .ok (.iload 8, 2) := by decide +kernel
theorem dX11_part_73 : decode cX11_part 73 = .ok (.invokestatic 133, 3) := by decide +kernel
theorem dX11_part_76 : decode cX11_part 76 = .ok (.iload 5, 2) := by decide +kernel
theorem dX11_part_78 : decode cX11_part 78 = .ok (.if_icmp .ne 7, 3) := by decide +kernel
theorem dX11_part_81 : decode cX11_part 81 = .ok (.iconst 1, 1) := by decide +kernel
theorem dX11_part_82 : decode cX11_part 82 = .ok (.goto 4, 3) := by decide +kernel
theorem dX11_part_85 : decode cX11_part 85 = .ok (.iconst 0, 1) := by decide +kernel
theorem dX11_part_86 : decode cX11_part 86 = .ok (.iadd, 1) := by decide +kernel
theorem dX11_part_87 : decode cX11_part 87 = .ok (.istore 6, 2) := by decide +kernel
theorem dX11_part_89 : decode cX11_part 89 = .ok (.iinc 7 1, 3) := by decide +kernel
theorem dX11_part_92 : decode cX11_part 92 = .ok (.goto (-73), 3) := by decide +kernel
theorem dX11_part_95 : decode cX11_part 95 = .ok (.iload 4, 2) := by decide +kernel
theorem dX11_part_97 : decode cX11_part 97 = .ok (.iload 6, 2) := by decide +kernel
theorem dX11_part_99 : decode cX11_part 99 = .ok (.invokestatic 136, 3) := by decide +kernel
theorem dX11_part_102 : decode cX11_part 102 = .ok (.istore 4, 2) := by decide +kernel
theorem dX11_part_104 : decode cX11_part 104 = .ok (.iinc 5 1, 3) := by decide +kernel
theorem dX11_part_107 : decode cX11_part 107 = .ok (.goto (-101), 3) := by decide +kernel
theorem dX11_part_110 : decode cX11_part 110 = .ok (.iload 4, 2) := by decide +kernel
theorem dX11_part_112 : decode cX11_part 112 = .ok (.ireturn, 1) := by decide +kernel
theorem dX11_next_0 : decode cX11_next 0 = .ok (.aload_n 0, 1) := by decide +kernel
theorem dX11_next_1 : decode cX11_next 1 = .ok (.iload_n 1, 1) := by decide +kernel
theorem dX11_next_2 : decode cX11_next 2 = .ok (.invokevirtual 152, 3) := by decide +kernel
theorem dX11_next_5 : decode cX11_next 5 = .ok (.ifCond .eq 11, 3) := by decide +kernel
theorem dX11_next_8 : decode cX11_next 8 = .ok (.aload_n 0, 1) := by decide +kernel
theorem dX11_next_9 : decode cX11_next 9 = .ok (.iload_n 2, 1) := by decide +kernel
theorem dX11_next_10 : decode cX11_next 10 = .ok (.invokevirtual 75, 3) := by decide +kernel
theorem dX11_next_13 : decode cX11_next 13 = .ok (.ifCond .ne 5, 3) := by decide +kernel
theorem dX11_next_16 : decode cX11_next 16 = .ok (.iconst (-1), 1) := by decide +kernel
theorem dX11_next_17 : decode cX11_next 17 = .ok (.ireturn, 1) := by decide +kernel
theorem dX11_next_18 : decode cX11_next 18 = .ok (.aload_n 0, 1) := by decide +kernel
theorem dX11_next_19 : decode cX11_next 19 = .ok (.iload_n 2, 1) := by decide +kernel
theorem dX11_next_20 : decode cX11_next 20 = .ok (.invokevirtual 189, 3) := by decide +kernel
theorem dX11_next_23 : decode cX11_next 23 = .ok (.istore_n 3, 1) := by decide +kernel
theorem dX11_next_24 : decode cX11_next 24 = .ok (.iload_n 3, 1) := by decide +kernel
theorem dX11_next_25 : decode cX11_next 25 = .ok (.ifCond .le 9, 3) := by decide +kernel
theorem dX11_next_28 : decode cX11_next 28 = .ok (.aload_n 0, 1) := by decide +kernel
theorem dX11_next_29 : decode cX11_next 29 = .ok (.iload_n 3, 1) := by decide +kernel
theorem dX11_next_30 : decode cX11_next 30 = .ok (.invokevirtual 79, 3) := by decide +kernel
theorem dX11_next_33 : decode cX11_next 33 = .ok (.ireturn, 1) := by decide +kernel
theorem dX11_next_34 : decode cX11_next 34 = .ok (.aload_n 0, 1) := by decide +kernel
theorem dX11_next_35 : decode cX11_next 35 = .ok (.iload_n 1, 1) := by decide +kernel
theorem dX11_next_36 : decode cX11_next 36 = .ok (.iload_n 2, 1) := by decide +kernel
theorem dX11_next_37 : decode cX11_next 37 = .ok (.invokevirtual 192, 3) := by decide +kernel
theorem dX11_next_40 : decode cX11_next 40 = .ok (.istore 4, 2) := by decide +kernel
theorem dX11_next_42 : decode cX11_next 42 = .ok (.bipush (-9), 2) := by decide +kernel
theorem dX11_next_44 : decode cX11_next 44 = .ok (.istore 5, 2) := by decide +kernel
theorem dX11_next_46 : decode cX11_next 46 = .ok (.bipush 9, 2) := by decide +kernel
theorem dX11_next_48 : decode cX11_next 48 = .ok (.istore 6, 2) := by decide +kernel
theorem dX11_next_50 : decode cX11_next 50 = .ok (.iconst 1, 1) := by decide +kernel
theorem dX11_next_51 : decode cX11_next 51 = .ok (.istore 7, 2) := by decide +kernel
theorem dX11_next_53 : decode cX11_next 53 = .ok (.iload 7, 2) := by decide +kernel
theorem dX11_next_55 : decode cX11_next 55 = .ok (.bipush 13, 2) := by decide +kernel
theorem dX11_next_57 : decode cX11_next 57 = .ok (.if_icmp .ge 69, 3) := by decide +kernel
theorem dX11_next_60 : decode cX11_next 60 = .ok (.iload 4, 2) := by decide +kernel
theorem dX11_next_62 : decode cX11_next 62 = .ok (.ifCond .eq 64, 3) := by decide +kernel
theorem dX11_next_65 : decode cX11_next 65 = .ok (.aload_n 0, 1) := by decide +kernel
theorem dX11_next_66 : decode cX11_next 66 = .ok (.getfield 38, 3) := by decide +kernel
theorem dX11_next_69 : decode cX11_next 69 = .ok (.iconst 5, 1) := by decide +kernel
theorem dX11_next_70 : decode cX11_next 70 = .ok (.iaload, 1) := by decide +kernel
theorem dX11_next_71 : decode cX11_next 71 = .ok (.iload 7, 2) := by decide +kernel
theorem dX11_next_73 : decode cX11_next 73 = .ok (.invokestatic 139, 3) := by decide +kernel
theorem dX11_next_76 : decode cX11_next 76 = .ok (.ifCond .eq 15, 3) := by decide +kernel
theorem dX11_next_79 : decode cX11_next 79 = .ok (.aload_n 0, 1) := by decide +kernel
theorem dX11_next_80 : decode cX11_next 80 = .ok (.iload_n 1, 1) := by decide +kernel
theorem dX11_next_81 : decode cX11_next 81 = .ok (.iload 4, 2) := by decide +kernel
theorem dX11_next_83 : decode cX11_next 83 = .ok (.iload 7, 2) := by decide +kernel
theorem dX11_next_85 : decode cX11_next 85 = .ok (.invokevirtual 195, 3) := by decide +kernel
theorem dX11_next_88 : decode cX11_next 88 = .ok (.goto 5, 3) := by decide +kernel
theorem dX11_next_91 : decode cX11_next 91 = .ok (.bipush 9, 2) := by decide +kernel
theorem dX11_next_93 : decode cX11_next 93 = .ok (.istore 8, 2) := by decide +kernel
theorem dX11_next_95 : decode cX11_next 95 = .ok (.iload 8, 2) := by decide +kernel
theorem dX11_next_97 : decode cX11_next 97 = .ok (.iload 6, 2) := by decide +kernel
theorem dX11_next_99 : decode cX11_next 99 = .ok (.if_icmp .ge 8, 3) := by decide +kernel
theorem dX11_next_102 : decode cX11_next 102 = .ok (.iload 7, 2) := by decide +kernel
theorem dX11_next_104 : decode cX11_next 104 = .ok (.goto 5, 3) := by decide +kernel
theorem dX11_next_107 : decode cX11_next 107 = .ok (.iload 5, 2) := by decide +kernel
theorem dX11_next_109 : decode cX11_next 109 = .ok (.istore 5, 2) := by decide +kernel
theorem dX11_next_111 : decode cX11_next 111 = .ok (.iload 8, 2) := by decide +kernel
theorem dX11_next_113 : decode cX11_next 113 = .ok (.iload 6, 2) := by decide +kernel
theorem dX11_next_115 : decode cX11_next 115 = .ok (.invokestatic 101, 3) := by decide +kernel
theorem dX11_next_118 : decode cX11_next 118 = .ok (.istore 6, 2) := by decide +kernel
theorem dX11_next_120 : decode cX11_next 120 = .ok (.iinc 7 1, 3) := by decide +kernel
theorem dX11_next_123 : decode cX11_next 123 = .ok (.goto (-70), 3) := by decide +kernel
theorem dX11_next_126 : decode cX11_next 126 = .ok (.aload_n 0, 1) := by decide +kernel
theorem dX11_next_127 : decode cX11_next 127 = .ok (.iload 5, 2) := by decide +kernel
theorem dX11_next_129 : decode cX11_next 129 = .ok (.ifCond .ge 10, 3) := by decide +kernel
theorem dX11_next_132 : decode cX11_next 132 = .ok (.aload_n 0, 1) := by decide +kernel
theorem dX11_next_133 : decode cX11_next 133 = .ok (.getfield 64, 3) := by decide +kernel
theorem dX11_next_136 : decode cX11_next 136 = .ok (.goto 5, 3) := by decide +kernel
theorem dX11_next_139 : decode cX11_next 139 = .ok (.iload 6, 2) := by decide +kernel
theorem dX11_next_141 : decode cX11_next 141 = .ok (.putfield 64, 3) := by decide +kernel
theorem dX11_next_144 : decode cX11_next 144 = .ok (.iload 5, 2) := by decide +kernel
theorem dX11_next_146 : decode cX11_next 146 = .ok (.ireturn, 1) := by decide +kernel
theorem dX11_worthOf_0 : decode cX11_worthOf 0 = .ok (.aload_n 0, 1) := by decide +kernel
theorem dX11_worthOf_1 : decode cX11_worthOf 1 = .ok (.getfield 38, 3) := by decide +kernel
theorem dX11_worthOf_4 : decode cX11_worthOf 4 = .ok (.iload_n 1, 1) := by decide +kernel
theorem dX11_worthOf_5 : decode cX11_worthOf 5 = .ok (.iconst 4, 1) := by decide +kernel
theorem dX11_worthOf_6 : decode cX11_worthOf 6 = .ok (.iadd, 1) := by decide +kernel
theorem dX11_worthOf_7 : decode cX11_worthOf 7 = .ok (.iaload, 1) := by decide +kernel
theorem dX11_worthOf_8 : decode cX11_worthOf 8 = .ok (.istore 4, 2) := by decide +kernel
theorem dX11_worthOf_10 : decode cX11_worthOf 10 = .ok (.aload_n 0, 1) := by decide +kernel
theorem dX11_worthOf_11 : decode cX11_worthOf 11 = .ok (.getfield 38, 3) := by decide +kernel
theorem dX11_worthOf_14 : decode cX11_worthOf 14 = .ok (.iload_n 1, 1) := by decide +kernel
theorem dX11_worthOf_15 : decode cX11_worthOf 15 = .ok (.iload_n 2, 1) := by decide +kernel
theorem dX11_worthOf_16 : decode cX11_worthOf 16 = .ok (.iadd, 1) := by decide +kernel
theorem dX11_worthOf_17 : decode cX11_worthOf 17 = .ok (.iaload, 1) := by decide +kernel
theorem dX11_worthOf_18 : decode cX11_worthOf 18 = .ok (.invokestatic 133, 3) := by decide +kernel
theorem dX11_worthOf_21 : decode cX11_worthOf 21 = .ok (.aload_n 0, 1) := by decide +kernel
theorem dX11_worthOf_22 : decode cX11_worthOf 22 = .ok (.getfield 38, 3) := by decide +kernel
theorem dX11_worthOf_25 : decode cX11_worthOf 25 = .ok (.iload_n 1, 1) := by decide +kernel
theorem dX11_worthOf_26 : decode cX11_worthOf 26 = .ok (.iload_n 3, 1) := by decide +kernel
theorem dX11_worthOf_27 : decode cX11_worthOf 27 = .ok (.iadd, 1) := by decide +kernel
theorem dX11_worthOf_28 : decode cX11_worthOf 28 = .ok (.iaload, 1) := by decide +kernel
theorem dX11_worthOf_29 : decode cX11_worthOf 29 = .ok (.invokestatic 133, 3) := by decide +kernel
theorem dX11_worthOf_32 : decode cX11_worthOf 32 = .ok (.isub, 1) := by decide +kernel
theorem dX11_worthOf_33 : decode cX11_worthOf 33 = .ok (.iload 4, 2) := by decide +kernel
theorem dX11_worthOf_35 : decode cX11_worthOf 35 = .ok (.iload_n 2, 1) := by decide +kernel
theorem dX11_worthOf_36 : decode cX11_worthOf 36 = .ok (.invokestatic 139, 3) := by decide +kernel
theorem dX11_worthOf_39 : decode cX11_worthOf 39 = .ok (.ifCond .eq 8, 3) := by decide +kernel
theorem dX11_worthOf_42 : decode cX11_worthOf 42 = .ok (.bipush 10, 2) := by decide +kernel
theorem dX11_worthOf_44 : decode cX11_worthOf 44 = .ok (.goto 4, 3) := by decide +kernel
theorem dX11_worthOf_47 : decode cX11_worthOf 47 = .ok (.iconst 0, 1) := by decide +kernel
theorem dX11_worthOf_48 : decode cX11_worthOf 48 = .ok (.iadd, 1) := by decide +kernel
theorem dX11_worthOf_49 : decode cX11_worthOf 49 = .ok (.iload 4, 2) := by decide +kernel
theorem dX11_worthOf_51 : decode cX11_worthOf 51 = .ok (.iload_n 3, 1) := by decide +kernel
theorem dX11_worthOf_52 : decode cX11_worthOf 52 = .ok (.invokestatic 139, 3) := by decide +kernel
theorem dX11_worthOf_55 : decode cX11_worthOf 55 = .ok (.ifCond .eq 8, 3) := by decide +kernel
theorem dX11_worthOf_58 : decode cX11_worthOf 58 = .ok (.bipush 10, 2) := by decide +kernel
theorem dX11_worthOf_60 : decode cX11_worthOf 60 = .ok (.goto 4, 3) := by decide +kernel
theorem dX11_worthOf_63 : decode cX11_worthOf 63 = .ok (.iconst 0, 1) := by decide +kernel
theorem dX11_worthOf_64 : decode cX11_worthOf 64 = .ok (.isub, 1) := by decide +kernel
theorem dX11_worthOf_65 : decode cX11_worthOf 65 = .ok (.ireturn, 1) := by decide +kernel
theorem dX11_duel_0 : decode cX11_duel 0 = .ok (.aload_n 0, 1) := by decide +kernel
theorem dX11_duel_1 : decode cX11_duel 1 = .ok (.iload_n 1, 1) := by decide +kernel
theorem dX11_duel_2 : decode cX11_duel 2 = .ok (.invokevirtual 152, 3) := by decide +kernel
theorem dX11_duel_5 : decode cX11_duel 5 = .ok (.ifCond .eq 28, 3) := by decide +kernel
theorem dX11_duel_8 : decode cX11_duel 8 = .ok (.aload_n 0, 1) := by decide +kernel
theorem dX11_duel_9 : decode cX11_duel 9 = .ok (.iload_n 2, 1) := by decide +kernel
theorem dX11_duel_10 : decode cX11_duel 10 = .ok (.invokevirtual 152, 3) := by decide +kernel
theorem dX11_duel_13 : decode cX11_duel 13 = .ok (.ifCond .eq 20, 3) := by decide +kernel
theorem dX11_duel_16 : decode cX11_duel 16 = .ok (.iload_n 1, 1) := by decide +kernel
theorem dX11_duel_17 : decode cX11_duel 17 = .ok (.iload_n 2, 1) := by decide +kernel
theorem dX11_duel_18 : decode cX11_duel 18 = .ok (.if_icmp .eq 15, 3) := by decide +kernel
theorem dX11_duel_21 : decode cX11_duel 21 = .ok (.iload_n 3, 1) := by decide +kernel
theorem dX11_duel_22 : decode cX11_duel 22 = .ok (.i2l, 1) := by decide +kernel
theorem dX11_duel_23 : decode cX11_duel 23 = .ok (.lconst 0, 1) := by decide +kernel
theorem dX11_duel_24 : decode cX11_duel 24 = .ok (.ldc2_w 170, 3) := by decide +kernel
theorem dX11_duel_27 : decode cX11_duel 27 = .ok (.invokestatic 69, 3) := by decide +kernel
theorem dX11_duel_30 : decode cX11_duel 30 = .ok (.ifCond .ne 5, 3) := by decide +kernel
theorem dX11_duel_33 : decode cX11_duel 33 = .ok (.iconst (-1), 1) := by decide +kernel
theorem dX11_duel_34 : decode cX11_duel 34 = .ok (.ireturn, 1) := by decide +kernel
theorem dX11_duel_35 : decode cX11_duel 35 = .ok (.iconst 2, 1) := by decide +kernel
theorem dX11_duel_36 : decode cX11_duel 36 = .ok (.iload_n 3, 1) := by decide +kernel
theorem dX11_duel_37 : decode cX11_duel 37 = .ok (.imul, 1) := by decide +kernel
theorem dX11_duel_38 : decode cX11_duel 38 = .ok (.aload_n 0, 1) := by decide +kernel
theorem dX11_duel_39 : decode cX11_duel 39 = .ok (.getfield 38, 3) := by decide +kernel
theorem dX11_duel_42 : decode cX11_duel 42 = .ok (.iconst 5, 1) := by decide +kernel
theorem dX11_duel_43 : decode cX11_duel 43 = .ok (.iaload, 1) := by decide +kernel
theorem dX11_duel_44 : decode cX11_duel 44 = .ok (.invokestatic 133, 3) := by decide +kernel
theorem dX11_duel_47 : decode cX11_duel 47 = .ok (.invokestatic 101, 3) := by decide +kernel
theorem dX11_duel_50 : decode cX11_duel 50 = .ok (.istore 4, 2) := by decide +kernel
theorem dX11_duel_52 : decode cX11_duel 52 = .ok (.aload_n 0, 1) := by decide +kernel
theorem dX11_duel_53 : decode cX11_duel 53 = .ok (.iconst 0, 1) := by decide +kernel
theorem dX11_duel_54 : decode cX11_duel 54 = .ok (.sipush 1312, 3) := by decide +kernel
theorem dX11_duel_57 : decode cX11_duel 57 = .ok (.bipush 8, 2) := by decide +kernel
theorem dX11_duel_59 : decode cX11_duel 59 = .ok (.invokevirtual 160, 3) := by decide +kernel
theorem dX11_duel_62 : decode cX11_duel 62 = .ok (.iconst 0, 1) := by decide +kernel
theorem dX11_duel_63 : decode cX11_duel 63 = .ok (.istore 5, 2) := by decide +kernel
theorem dX11_duel_65 : decode cX11_duel 65 = .ok (.aload_n 0, 1) := by decide +kernel
theorem dX11_duel_66 : decode cX11_duel 66 = .ok (.getfield 51, 3) := by decide +kernel
theorem dX11_duel_69 : decode cX11_duel 69 = .ok (.iconst 0, 1) := by decide +kernel
theorem dX11_duel_70 : decode cX11_duel 70 = .ok (.iconst 0, 1) := by decide +kernel
theorem dX11_duel_71 : decode cX11_duel 71 = .ok (.iastore, 1) := by decide +kernel
theorem dX11_duel_72 : decode cX11_duel 72 = .ok (.aload_n 0, 1) := by decide +kernel
theorem dX11_duel_73 : decode cX11_duel 73 = .ok (.getfield 57, 3) := by decide +kernel
theorem dX11_duel_76 : decode cX11_duel 76 = .ok (.iconst 0, 1) := by decide +kernel
theorem dX11_duel_77 : decode cX11_duel 77 = .ok (.iload 4, 2) := by decide +kernel
theorem dX11_duel_79 : decode cX11_duel 79 = .ok (.ifCond .ne 15, 3) := by decide +kernel
theorem dX11_duel_82 : decode cX11_duel 82 = .ok (.aload_n 0, 1) := by decide +kernel
theorem dX11_duel_83 : decode cX11_duel 83 = .ok (.sipush 1312, 3) := by decide +kernel
theorem dX11_duel_86 : decode cX11_duel 86 = .ok (.iload_n 1, 1) := by decide +kernel
theorem dX11_duel_87 : decode cX11_duel 87 = .ok (.iload_n 2, 1) := by decide +kernel
theorem dX11_duel_88 : decode cX11_duel 88 = .ok (.invokevirtual 198, 3) := by decide +kernel
theorem dX11_duel_91 : decode cX11_duel 91 = .ok (.goto 6, 3) := by decide +kernel
theorem dX11_duel_94 : decode cX11_duel 94 = .ok (.sipush (-999), 3) := by decide +kernel
theorem dX11_duel_97 : decode cX11_duel 97 = .ok (.iastore, 1) := by decide +kernel
theorem dX11_duel_98 : decode cX11_duel 98 = .ok (.iload 5, 2) := by decide +kernel
theorem dX11_duel_100 : decode cX11_duel 100 = .ok (.ifCond .lt 226, 3) := by decide +kernel
theorem dX11_duel_103 : decode cX11_duel 103 = .ok (.iload 4, 2) := by decide +kernel
theorem dX11_duel_105 : decode cX11_duel 105 = .ok (.ifCond .le 221, 3) := by decide +kernel
theorem dX11_duel_108 : decode cX11_duel 108 = .ok (.aload_n 0, 1) := by decide +kernel
theorem dX11_duel_109 : decode cX11_duel 109 = .ok (.getfield 51, 3) := by decide +kernel
theorem dX11_duel_112 : decode cX11_duel 112 = .ok (.iload 5, 2) := by decide +kernel
theorem dX11_duel_114 : decode cX11_duel 114 = .ok (.iaload, 1) := by decide +kernel
theorem dX11_duel_115 : decode cX11_duel 115 = .ok (.iconst 1, 1) := by decide +kernel
theorem dX11_duel_116 : decode cX11_duel 116 = .ok (.iadd, 1) := by decide +kernel
theorem dX11_duel_117 : decode cX11_duel 117 = .ok (.istore 6, 2) := by decide +kernel
theorem dX11_duel_119 : decode cX11_duel 119 = .ok (.iload 6, 2) := by decide +kernel
theorem dX11_duel_121 : decode cX11_duel 121 = .ok (.bipush 13, 2) := by decide +kernel
theorem dX11_duel_123 : decode cX11_duel 123 = .ok (.if_icmp .ge 33, 3) := by decide +kernel
theorem dX11_duel_126 : decode cX11_duel 126 = .ok (.aload_n 0, 1) := by decide +kernel
theorem dX11_duel_127 : decode cX11_duel 127 = .ok (.getfield 38, 3) := by decide +kernel
theorem dX11_duel_130 : decode cX11_duel 130 = .ok (.sipush 1312, 3) := by decide +kernel
theorem dX11_duel_133 : decode cX11_duel 133 = .ok (.iload 5, 2) := by decide +kernel
theorem dX11_duel_135 : decode cX11_duel 135 = .ok (.bipush 8, 2) := by decide +kernel
theorem dX11_duel_137 : decode cX11_duel 137 = .ok (.imul, 1) := by decide +kernel
theorem dX11_duel_138 : decode cX11_duel 138 = .ok (.iadd, 1) := by decide +kernel
theorem dX11_duel_139 : decode cX11_duel 139 = .ok (.iconst 5, 1) := by decide +kernel
theorem dX11_duel_140 : decode cX11_duel 140 = .ok (.iadd, 1) := by decide +kernel
theorem dX11_duel_141 : decode cX11_duel 141 = .ok (.iaload, 1) := by decide +kernel
theorem dX11_duel_142 : decode cX11_duel 142 = .ok (.iload 6, 2) := by decide +kernel
theorem dX11_duel_144 : decode cX11_duel 144 = .ok (.invokestatic 139, 3) := by decide +kernel
theorem dX11_duel_147 : decode cX11_duel 147 = .ok (.ifCond .ne 9, 3) := by decide +kernel
theorem dX11_duel_150 : decode cX11_duel 150 = .ok (.iinc 6 1, 3) := by decide +kernel
theorem dX11_duel_153 : decode cX11_duel 153 = .ok (.goto (-34), 3) := by decide +kernel
theorem dX11_duel_156 : decode cX11_duel 156 = .ok (.iload 6, 2) := by decide +kernel
theorem dX11_duel_158 : decode cX11_duel 158 = .ok (.bipush 12, 2) := by decide +kernel
theorem dX11_duel_160 : decode cX11_duel 160 = .ok (.if_icmp .le 7, 3) := by decide +kernel
theorem dX11_duel_163 : decode cX11_duel 163 = .ok (.iconst 1, 1) := by decide +kernel
theorem dX11_duel_164 : decode cX11_duel 164 = .ok (.goto 4, 3) := by decide +kernel
theorem dX11_duel_167 : decode cX11_duel 167 = .ok (.iconst 0, 1) := by decide +kernel
theorem dX11_duel_168 : decode cX11_duel 168 = .ok (.istore 7, 2) := by decide +kernel
theorem dX11_duel_170 : decode cX11_duel 170 = .ok (.iload 7, 2) := by decide +kernel
theorem dX11_duel_172 : decode cX11_duel 172 = .ok (.ifCond .ne 128, 3) := by decide +kernel
theorem dX11_duel_175 : decode cX11_duel 175 = .ok (.aload_n 0, 1) := by decide +kernel
theorem dX11_duel_176 : decode cX11_duel 176 = .ok (.getfield 51, 3) := by decide +kernel
theorem dX11_duel_179 : decode cX11_duel 179 = .ok (.iload 5, 2) := by decide +kernel
theorem dX11_duel_181 : decode cX11_duel 181 = .ok (.iload 6, 2) := by decide +kernel
theorem dX11_duel_183 : decode cX11_duel 183 = .ok (.iastore, 1) := by decide +kernel
theorem dX11_duel_184 : decode cX11_duel 184 = .ok (.aload_n 0, 1) := by decide +kernel
theorem dX11_duel_185 : decode cX11_duel 185 = .ok (.sipush 1312, 3) := by decide +kernel
theorem dX11_duel_188 : decode cX11_duel 188 = .ok (.iload 5, 2) := by decide +kernel
theorem dX11_duel_190 : decode cX11_duel 190 = .ok (.bipush 8, 2) := by decide +kernel
theorem dX11_duel_192 : decode cX11_duel 192 = .ok (.imul, 1) := by decide +kernel
theorem dX11_duel_193 : decode cX11_duel 193 = .ok (.iadd, 1) := by decide +kernel
theorem dX11_duel_194 : decode cX11_duel 194 = .ok (.sipush 1312, 3) := by decide +kernel
theorem dX11_duel_197 : decode cX11_duel 197 = .ok (.iload 5, 2) := by decide +kernel
theorem dX11_duel_199 : decode cX11_duel 199 = .ok (.iconst 1, 1) := by decide +kernel
theorem dX11_duel_200 : decode cX11_duel 200 = .ok (.iadd, 1) := by decide +kernel
theorem dX11_duel_201 : decode cX11_duel 201 = .ok (.bipush 8, 2) := by decide +kernel
theorem dX11_duel_203 : decode cX11_duel 203 = .ok (.imul, 1) := by decide +kernel
theorem dX11_duel_204 : decode cX11_duel 204 = .ok (.iadd, 1) := by decide +kernel
theorem dX11_duel_205 : decode cX11_duel 205 = .ok (.bipush 8, 2) := by decide +kernel
theorem dX11_duel_207 : decode cX11_duel 207 = .ok (.invokevirtual 160, 3) := by decide +kernel
theorem dX11_duel_210 : decode cX11_duel 210 = .ok (.aload_n 0, 1) := by decide +kernel
theorem dX11_duel_211 : decode cX11_duel 211 = .ok (.sipush 1312, 3) := by decide +kernel
theorem dX11_duel_214 : decode cX11_duel 214 = .ok (.iload 5, 2) := by decide +kernel
theorem dX11_duel_216 : decode cX11_duel 216 = .ok (.iconst 1, 1) := by decide +kernel
theorem dX11_duel_217 : decode cX11_duel 217 = .ok (.iadd, 1) := by decide +kernel
theorem dX11_duel_218 : decode cX11_duel 218 = .ok (.bipush 8, 2) := by decide +kernel
theorem dX11_duel_220 : decode cX11_duel 220 = .ok (.imul, 1) := by decide +kernel
theorem dX11_duel_221 : decode cX11_duel 221 = .ok (.iadd, 1) := by decide +kernel
theorem dX11_duel_222 : decode cX11_duel 222 = .ok (.iload 6, 2) := by decide +kernel
theorem dX11_duel_224 : decode cX11_duel 224 = .ok (.invokevirtual 167, 3) := by decide +kernel
theorem dX11_duel_227 : decode cX11_duel 227 = .ok (.pop, 1) := by decide +kernel
theorem dX11_duel_228 : decode cX11_duel 228 = .ok (.iload 5, 2) := by decide +kernel
theorem dX11_duel_230 : decode cX11_duel 230 = .ok (.iconst 1, 1) := by decide +kernel
theorem dX11_duel_231 : decode cX11_duel 231 = .ok (.iadd, 1) := by decide +kernel
theorem dX11_duel_232 : decode cX11_duel 232 = .ok (.iload 4, 2) := by decide +kernel
theorem dX11_duel_234 : decode cX11_duel 234 = .ok (.if_icmp .ne 29, 3) := by decide +kernel
theorem dX11_duel_237 : decode cX11_duel 237 = .ok (.aload_n 0, 1) := by decide +kernel
theorem dX11_duel_238 : decode cX11_duel 238 = .ok (.iload 5, 2) := by decide +kernel
theorem dX11_duel_240 : decode cX11_duel 240 = .ok (.aload_n 0, 1) := by decide +kernel
theorem dX11_duel_241 : decode cX11_duel 241 = .ok (.sipush 1312, 3) := by decide +kernel
theorem dX11_duel_244 : decode cX11_duel 244 = .ok (.iload 5, 2) := by decide +kernel
theorem dX11_duel_246 : decode cX11_duel 246 = .ok (.iconst 1, 1) := by decide +kernel
theorem dX11_duel_247 : decode cX11_duel 247 = .ok (.iadd, 1) := by decide +kernel
theorem dX11_duel_248 : decode cX11_duel 248 = .ok (.bipush 8, 2) := by decide +kernel
theorem dX11_duel_250 : decode cX11_duel 250 = .ok (.imul, 1) := by decide +kernel
theorem dX11_duel_251 : decode cX11_duel 251 = .ok (.iadd, 1) := by decide +kernel
theorem dX11_duel_252 : decode cX11_duel 252 = .ok (.iload_n 1, 1) := by decide +kernel
theorem dX11_duel_253 : decode cX11_duel 253 = .ok (.iload_n 2, 1) := by decide +kernel
theorem dX11_duel_254 : decode cX11_duel 254 = .ok (.invokevirtual 198, 3) := by decide +kernel
theorem dX11_duel_257 : decode cX11_duel 257 = .ok (.invokevirtual 201, 3) := by decide +kernel
theorem dX11_duel_260 : decode cX11_duel 260 = .ok (.goto 63, 3) := by decide +kernel
theorem dX11_duel_263 : decode cX11_duel 263 = .ok (.iinc 5 1, 3) := by decide +kernel
theorem dX11_duel_266 : decode cX11_duel 266 = .ok (.aload_n 0, 1) := by decide +kernel
theorem dX11_duel_267 : decode cX11_duel 267 = .ok (.getfield 51, 3) := by decide +kernel
theorem dX11_duel_270 : decode cX11_duel 270 = .ok (.iload 5, 2) := by decide +kernel
theorem dX11_duel_272 : decode cX11_duel 272 = .ok (.iconst 0, 1) := by decide +kernel
theorem dX11_duel_273 : decode cX11_duel 273 = .ok (.iastore, 1) := by decide +kernel
theorem dX11_duel_274 : decode cX11_duel 274 = .ok (.aload_n 0, 1) := by decide +kernel
theorem dX11_duel_275 : decode cX11_duel 275 = .ok (.getfield 57, 3) := by decide +kernel
theorem dX11_duel_278 : decode cX11_duel 278 = .ok (.iload 5, 2) := by decide +kernel
theorem dX11_duel_280 : decode cX11_duel 280 = .ok (.iload 5, 2) := by decide +kernel
theorem dX11_duel_282 : decode cX11_duel 282 = .ok (.iconst 2, 1) := by decide +kernel
theorem dX11_duel_283 : decode cX11_duel 283 = .ok (.irem, 1) := by decide +kernel
theorem dX11_duel_284 : decode cX11_duel 284 = .ok (.ifCond .ne 9, 3) := by decide +kernel
theorem dX11_duel_287 : decode cX11_duel 287 = .ok (.sipush (-999), 3) := by decide +kernel
theorem dX11_duel_290 : decode cX11_duel 290 = .ok (.goto 6, 3) := by decide +kernel
theorem dX11_duel_293 : decode cX11_duel 293 = .ok (.sipush 999, 3) := by decide +kernel
theorem dX11_duel_296 : decode cX11_duel 296 = .ok (.iastore, 1) := by decide +kernel
theorem dX11_duel_297 : decode cX11_duel 297 = .ok (.goto 26, 3) := by decide +kernel
theorem dX11_duel_300 : decode cX11_duel 300 = .ok (.iload 5, 2) := by decide +kernel
theorem dX11_duel_302 : decode cX11_duel 302 = .ok (.ifCond .le 18, 3) := by decide +kernel
theorem dX11_duel_305 : decode cX11_duel 305 = .ok (.aload_n 0, 1) := by decide +kernel
theorem dX11_duel_306 : decode cX11_duel 306 = .ok (.iload 5, 2) := by decide +kernel
theorem dX11_duel_308 : decode cX11_duel 308 = .ok (.iconst 1, 1) := by decide +kernel
theorem dX11_duel_309 : decode cX11_duel 309 = .ok (.isub, 1) := by decide +kernel
theorem dX11_duel_310 : decode cX11_duel 310 = .ok (.aload_n 0, 1) := by decide +kernel
theorem dX11_duel_311 : decode cX11_duel 311 = .ok (.getfield 57, 3) := by decide +kernel
theorem dX11_duel_314 : decode cX11_duel 314 = .ok (.iload 5, 2) := by decide +kernel
theorem dX11_duel_316 : decode cX11_duel 316 = .ok (.iaload, 1) := by decide +kernel
theorem dX11_duel_317 : decode cX11_duel 317 = .ok (.invokevirtual 201, 3) := by decide +kernel
theorem dX11_duel_320 : decode cX11_duel 320 = .ok (.iinc 5 (-1), 3) := by decide +kernel
theorem dX11_duel_323 : decode cX11_duel 323 = .ok (.goto (-225), 3) := by decide +kernel
theorem dX11_duel_326 : decode cX11_duel 326 = .ok (.aload_n 0, 1) := by decide +kernel
theorem dX11_duel_327 : decode cX11_duel 327 = .ok (.aload_n 0, 1) := by decide +kernel
theorem dX11_duel_328 : decode cX11_duel 328 = .ok (.getfield 57, 3) := by decide +kernel
theorem dX11_duel_331 : decode cX11_duel 331 = .ok (.iconst 0, 1) := by decide +kernel
theorem dX11_duel_332 : decode cX11_duel 332 = .ok (.iaload, 1) := by decide +kernel
theorem dX11_duel_333 : decode cX11_duel 333 = .ok (.invokevirtual 87, 3) := by decide +kernel
theorem dX11_duel_336 : decode cX11_duel 336 = .ok (.ireturn, 1) := by decide +kernel
theorem dX11_better_0 : decode cX11_better 0 = .ok (.aload_n 0, 1) := by decide +kernel
theorem dX11_better_1 : decode cX11_better 1 = .ok (.getfield 57, 3) := by decide +kernel
theorem dX11_better_4 : decode cX11_better 4 = .ok (.iload_n 1, 1) := by decide +kernel
theorem dX11_better_5 : decode cX11_better 5 = .ok (.iload_n 1, 1) := by decide +kernel
theorem dX11_better_6 : decode cX11_better 6 = .ok (.iconst 2, 1) := by decide +kernel
theorem dX11_better_7 : decode cX11_better 7 = .ok (.irem, 1) := by decide +kernel
theorem dX11_better_8 : decode cX11_better 8 = .ok (.ifCond .ne 16, 3) := by decide +kernel
theorem dX11_better_11 : decode cX11_better 11 = .ok (.aload_n 0, 1) := by decide +kernel
theorem dX11_better_12 : decode cX11_better 12 = .ok (.getfield 57, 3) := by decide +kernel
theorem dX11_better_15 : decode cX11_better 15 = .ok (.iload_n 1, 1) := by decide +kernel
theorem dX11_better_16 : decode cX11_better 16 = .ok (.iaload, 1) := by decide +kernel
theorem dX11_better_17 : decode cX11_better 17 = .ok (.iload_n 2, 1) := by decide +kernel
theorem dX11_better_18 : decode cX11_better 18 = .ok (.invokestatic 136, 3) := by decide +kernel
theorem dX11_better_21 : decode cX11_better 21 = .ok (.goto 13, 3) := by decide +kernel
theorem dX11_better_24 : decode cX11_better 24 = .ok (.aload_n 0, 1) := by decide +kernel
theorem dX11_better_25 : decode cX11_better 25 = .ok (.getfield 57, 3) := by decide +kernel
theorem dX11_better_28 : decode cX11_better 28 = .ok (.iload_n 1, 1) := by decide +kernel
theorem dX11_better_29 : decode cX11_better 29 = .ok (.iaload, 1) := by decide +kernel
theorem dX11_better_30 : decode cX11_better 30 = .ok (.iload_n 2, 1) := by decide +kernel
theorem dX11_better_31 : decode cX11_better 31 = .ok (.invokestatic 101, 3) := by decide +kernel
theorem dX11_better_34 : decode cX11_better 34 = .ok (.iastore, 1) := by decide +kernel
theorem dX11_better_35 : decode cX11_better 35 = .ok (.return_, 1) := by decide +kernel
theorem dX11_fraction_0 : decode cX11_fraction 0 = .ok (.lload_n 1, 1) := by decide +kernel
theorem dX11_fraction_1 : decode cX11_fraction 1 = .ok (.lstore 5, 2) := by decide +kernel
theorem dX11_fraction_3 : decode cX11_fraction 3 = .ok (.lload_n 3, 1) := by decide +kernel
theorem dX11_fraction_4 : decode cX11_fraction 4 = .ok (.lstore 7, 2) := by decide +kernel
theorem dX11_fraction_6 : decode cX11_fraction 6 = .ok (.lload 7, 2) := by decide +kernel
theorem dX11_fraction_8 : decode cX11_fraction 8 = .ok (.lconst 0, 1) := by decide +kernel
theorem dX11_fraction_9 : decode cX11_fraction 9 = .ok (.lcmp, 1) := by decide +kernel
theorem dX11_fraction_10 : decode cX11_fraction 10 = .ok (.ifCond .eq 21, 3) := by decide +kernel
theorem dX11_fraction_13 : decode cX11_fraction 13 = .ok (.lload 5, 2) := by decide +kernel
theorem dX11_fraction_15 : decode cX11_fraction 15 = .ok (.lload 7, 2) := by decide +kernel
theorem dX11_fraction_17 : decode cX11_fraction 17 = .ok (.lrem, 1) := by decide +kernel
theorem dX11_fraction_18 : decode cX11_fraction 18 = .ok (.lstore 9, 2) := by decide +kernel
theorem dX11_fraction_20 : decode cX11_fraction 20 = .ok (.lload 7, 2) := by decide +kernel
theorem dX11_fraction_22 : decode cX11_fraction 22 = .ok (.lstore 5, 2) := by decide +kernel
theorem dX11_fraction_24 : decode cX11_fraction 24 = .ok (.lload 9, 2) := by decide +kernel
theorem dX11_fraction_26 : decode cX11_fraction 26 = .ok (.lstore 7, 2) := by decide +kernel
theorem dX11_fraction_28 : decode cX11_fraction 28 = .ok (.goto (-22), 3) := by decide +kernel
theorem dX11_fraction_31 : decode cX11_fraction 31 = .ok (.aload_n 0, 1) := by decide +kernel
theorem dX11_fraction_32 : decode cX11_fraction 32 = .ok (.lload_n 1, 1) := by decide +kernel
theorem dX11_fraction_33 : decode cX11_fraction 33 = .ok (.lload 5, 2) := by decide +kernel
theorem dX11_fraction_35 : decode cX11_fraction 35 = .ok (.ldiv, 1) := by decide +kernel
theorem dX11_fraction_36 : decode cX11_fraction 36 = .ok (.putfield 204, 3) := by decide +kernel
theorem dX11_fraction_39 : decode cX11_fraction 39 = .ok (.aload_n 0, 1) := by decide +kernel
theorem dX11_fraction_40 : decode cX11_fraction 40 = .ok (.lload_n 3, 1) := by decide +kernel
theorem dX11_fraction_41 : decode cX11_fraction 41 = .ok (.lload 5, 2) := by decide +kernel
theorem dX11_fraction_43 : decode cX11_fraction 43 = .ok (.ldiv, 1) := by decide +kernel
theorem dX11_fraction_44 : decode cX11_fraction 44 = .ok (.putfield 44, 3) := by decide +kernel
theorem dX11_fraction_47 : decode cX11_fraction 47 = .ok (.iconst 1, 1) := by decide +kernel
theorem dX11_fraction_48 : decode cX11_fraction 48 = .ok (.ireturn, 1) := by decide +kernel
theorem dX11_lot_0 : decode cX11_lot 0 = .ok (.iload_n 2, 1) := by decide +kernel
theorem dX11_lot_1 : decode cX11_lot 1 = .ok (.aload_n 0, 1) := by decide +kernel
theorem dX11_lot_2 : decode cX11_lot 2 = .ok (.getfield 38, 3) := by decide +kernel
theorem dX11_lot_5 : decode cX11_lot 5 = .ok (.iconst 5, 1) := by decide +kernel
theorem dX11_lot_6 : decode cX11_lot 6 = .ok (.iaload, 1) := by decide +kernel
theorem dX11_lot_7 : decode cX11_lot 7 = .ok (.invokestatic 133, 3) := by decide +kernel
theorem dX11_lot_10 : decode cX11_lot 10 = .ok (.invokestatic 101, 3) := by decide +kernel
theorem dX11_lot_13 : decode cX11_lot 13 = .ok (.istore 4, 2) := by decide +kernel
theorem dX11_lot_15 : decode cX11_lot 15 = .ok (.iload 4, 2) := by decide +kernel
theorem dX11_lot_17 : decode cX11_lot 17 = .ok (.ifCond .le 7, 3) := by decide +kernel
end
section
theorem dX11_lot_20 : decode cX11_lot 20 = .ok (.lconst 0, 1) := by decide +kernel
theorem dX11_lot_21 : decode cX11_lot 21 = .ok (.goto 31, 3) := by decide +kernel
theorem dX11_lot_24 : decode cX11_lot 24 = .ok (.iload_n 3, 1) := by decide +kernel
theorem dX11_lot_25 : decode cX11_lot 25 = .ok (.ifCond .eq 16, 3) := by decide +kernel
theorem dX11_lot_28 : decode cX11_lot 28 = .ok (.aload_n 0, 1) := by decide +kernel
theorem dX11_lot_29 : decode cX11_lot 29 = .ok (.getfield 38, 3) := by decide +kernel
theorem dX11_lot_32 : decode cX11_lot 32 = .ok (.iload_n 1, 1) := by decide +kernel
theorem dX11_lot_33 : decode cX11_lot 33 = .ok (.iaload, 1) := by decide +kernel
theorem dX11_lot_34 : decode cX11_lot 34 = .ok (.invokestatic 133, 3) := by decide +kernel
theorem dX11_lot_37 : decode cX11_lot 37 = .ok (.i2l, 1) := by decide +kernel
theorem dX11_lot_38 : decode cX11_lot 38 = .ok (.goto 14, 3) := by decide +kernel
theorem dX11_lot_41 : decode cX11_lot 41 = .ok (.aload_n 0, 1) := by decide +kernel
theorem dX11_lot_42 : decode cX11_lot 42 = .ok (.getfield 38, 3) := by decide +kernel
theorem dX11_lot_45 : decode cX11_lot 45 = .ok (.iconst 4, 1) := by decide +kernel
theorem dX11_lot_46 : decode cX11_lot 46 = .ok (.iaload, 1) := by decide +kernel
theorem dX11_lot_47 : decode cX11_lot 47 = .ok (.iload_n 1, 1) := by decide +kernel
theorem dX11_lot_48 : decode cX11_lot 48 = .ok (.ishr, 1) := by decide +kernel
theorem dX11_lot_49 : decode cX11_lot 49 = .ok (.iconst 1, 1) := by decide +kernel
theorem dX11_lot_50 : decode cX11_lot 50 = .ok (.iand, 1) := by decide +kernel
theorem dX11_lot_51 : decode cX11_lot 51 = .ok (.i2l, 1) := by decide +kernel
theorem dX11_lot_52 : decode cX11_lot 52 = .ok (.lstore 5, 2) := by decide +kernel
theorem dX11_lot_54 : decode cX11_lot 54 = .ok (.iload 4, 2) := by decide +kernel
theorem dX11_lot_56 : decode cX11_lot 56 = .ok (.ifCond .le 7, 3) := by decide +kernel
theorem dX11_lot_59 : decode cX11_lot 59 = .ok (.lconst 0, 1) := by decide +kernel
theorem dX11_lot_60 : decode cX11_lot 60 = .ok (.goto 4, 3) := by decide +kernel
theorem dX11_lot_63 : decode cX11_lot 63 = .ok (.lconst 1, 1) := by decide +kernel
theorem dX11_lot_64 : decode cX11_lot 64 = .ok (.lstore 7, 2) := by decide +kernel
theorem dX11_lot_66 : decode cX11_lot 66 = .ok (.iload 4, 2) := by decide +kernel
theorem dX11_lot_68 : decode cX11_lot 68 = .ok (.ifCond .le 17, 3) := by decide +kernel
theorem dX11_lot_71 : decode cX11_lot 71 = .ok (.aload_n 0, 1) := by decide +kernel
theorem dX11_lot_72 : decode cX11_lot 72 = .ok (.iload 4, 2) := by decide +kernel
theorem dX11_lot_74 : decode cX11_lot 74 = .ok (.iconst 1, 1) := by decide +kernel
theorem dX11_lot_75 : decode cX11_lot 75 = .ok (.invokevirtual 174, 3) := by decide +kernel
theorem dX11_lot_78 : decode cX11_lot 78 = .ok (.ifCond .eq 7, 3) := by decide +kernel
theorem dX11_lot_81 : decode cX11_lot 81 = .ok (.iconst 1, 1) := by decide +kernel
theorem dX11_lot_82 : decode cX11_lot 82 = .ok (.goto 4, 3) := by decide +kernel
theorem dX11_lot_85 : decode cX11_lot 85 = .ok (.iconst 0, 1) := by decide +kernel
theorem dX11_lot_86 : decode cX11_lot 86 = .ok (.istore 9, 2) := by decide +kernel
theorem dX11_lot_88 : decode cX11_lot 88 = .ok (.iload 9, 2) := by decide +kernel
theorem dX11_lot_90 : decode cX11_lot 90 = .ok (.ifCond .eq 71, 3) := by decide +kernel
theorem dX11_lot_93 : decode cX11_lot 93 = .ok (.sipush 1312, 3) := by decide +kernel
theorem dX11_lot_96 : decode cX11_lot 96 = .ok (.iload 4, 2) := by decide +kernel
theorem dX11_lot_98 : decode cX11_lot 98 = .ok (.bipush 8, 2) := by decide +kernel
theorem dX11_lot_100 : decode cX11_lot 100 = .ok (.imul, 1) := by decide +kernel
theorem dX11_lot_101 : decode cX11_lot 101 = .ok (.iadd, 1) := by decide +kernel
theorem dX11_lot_102 : decode cX11_lot 102 = .ok (.istore 10, 2) := by decide +kernel
theorem dX11_lot_104 : decode cX11_lot 104 = .ok (.lload 5, 2) := by decide +kernel
theorem dX11_lot_106 : decode cX11_lot 106 = .ok (.iload_n 3, 1) := by decide +kernel
theorem dX11_lot_107 : decode cX11_lot 107 = .ok (.ifCond .eq 19, 3) := by decide +kernel
theorem dX11_lot_110 : decode cX11_lot 110 = .ok (.aload_n 0, 1) := by decide +kernel
theorem dX11_lot_111 : decode cX11_lot 111 = .ok (.getfield 38, 3) := by decide +kernel
theorem dX11_lot_114 : decode cX11_lot 114 = .ok (.iload 10, 2) := by decide +kernel
theorem dX11_lot_116 : decode cX11_lot 116 = .ok (.iload_n 1, 1) := by decide +kernel
theorem dX11_lot_117 : decode cX11_lot 117 = .ok (.iadd, 1) := by decide +kernel
theorem dX11_lot_118 : decode cX11_lot 118 = .ok (.iaload, 1) := by decide +kernel
theorem dX11_lot_119 : decode cX11_lot 119 = .ok (.invokestatic 133, 3) := by decide +kernel
theorem dX11_lot_122 : decode cX11_lot 122 = .ok (.i2l, 1) := by decide +kernel
theorem dX11_lot_123 : decode cX11_lot 123 = .ok (.goto 17, 3) := by decide +kernel
theorem dX11_lot_126 : decode cX11_lot 126 = .ok (.aload_n 0, 1) := by decide +kernel
theorem dX11_lot_127 : decode cX11_lot 127 = .ok (.getfield 38, 3) := by decide +kernel
theorem dX11_lot_130 : decode cX11_lot 130 = .ok (.iload 10, 2) := by decide +kernel
theorem dX11_lot_132 : decode cX11_lot 132 = .ok (.iconst 4, 1) := by decide +kernel
theorem dX11_lot_133 : decode cX11_lot 133 = .ok (.iadd, 1) := by decide +kernel
theorem dX11_lot_134 : decode cX11_lot 134 = .ok (.iaload, 1) := by decide +kernel
theorem dX11_lot_135 : decode cX11_lot 135 = .ok (.iload_n 1, 1) := by decide +kernel
theorem dX11_lot_136 : decode cX11_lot 136 = .ok (.ishr, 1) := by decide +kernel
theorem dX11_lot_137 : decode cX11_lot 137 = .ok (.iconst 1, 1) := by decide +kernel
theorem dX11_lot_138 : decode cX11_lot 138 = .ok (.iand, 1) := by decide +kernel
theorem dX11_lot_139 : decode cX11_lot 139 = .ok (.i2l, 1) := by decide +kernel
theorem dX11_lot_140 : decode cX11_lot 140 = .ok (.ladd, 1) := by decide +kernel
theorem dX11_lot_141 : decode cX11_lot 141 = .ok (.lstore 5, 2) := by decide +kernel
theorem dX11_lot_143 : decode cX11_lot 143 = .ok (.lload 7, 2) := by decide +kernel
theorem dX11_lot_145 : decode cX11_lot 145 = .ok (.lconst 1, 1) := by decide +kernel
theorem dX11_lot_146 : decode cX11_lot 146 = .ok (.ladd, 1) := by decide +kernel
theorem dX11_lot_147 : decode cX11_lot 147 = .ok (.lstore 7, 2) := by decide +kernel
theorem dX11_lot_149 : decode cX11_lot 149 = .ok (.aload_n 0, 1) := by decide +kernel
theorem dX11_lot_150 : decode cX11_lot 150 = .ok (.iload 4, 2) := by decide +kernel
theorem dX11_lot_152 : decode cX11_lot 152 = .ok (.iconst 0, 1) := by decide +kernel
theorem dX11_lot_153 : decode cX11_lot 153 = .ok (.invokevirtual 174, 3) := by decide +kernel
theorem dX11_lot_156 : decode cX11_lot 156 = .ok (.istore 9, 2) := by decide +kernel
theorem dX11_lot_158 : decode cX11_lot 158 = .ok (.goto (-70), 3) := by decide +kernel
theorem dX11_lot_161 : decode cX11_lot 161 = .ok (.aload_n 0, 1) := by decide +kernel
theorem dX11_lot_162 : decode cX11_lot 162 = .ok (.lload 5, 2) := by decide +kernel
theorem dX11_lot_164 : decode cX11_lot 164 = .ok (.lload 7, 2) := by decide +kernel
theorem dX11_lot_166 : decode cX11_lot 166 = .ok (.invokevirtual 207, 3) := by decide +kernel
theorem dX11_lot_169 : decode cX11_lot 169 = .ok (.ireturn, 1) := by decide +kernel
theorem dX11_odds_0 : decode cX11_odds 0 = .ok (.aload_n 0, 1) := by decide +kernel
theorem dX11_odds_1 : decode cX11_odds 1 = .ok (.iload_n 1, 1) := by decide +kernel
theorem dX11_odds_2 : decode cX11_odds 2 = .ok (.invokevirtual 152, 3) := by decide +kernel
theorem dX11_odds_5 : decode cX11_odds 5 = .ok (.ifCond .eq 25, 3) := by decide +kernel
theorem dX11_odds_8 : decode cX11_odds 8 = .ok (.iload_n 2, 1) := by decide +kernel
theorem dX11_odds_9 : decode cX11_odds 9 = .ok (.i2l, 1) := by decide +kernel
theorem dX11_odds_10 : decode cX11_odds 10 = .ok (.lconst 0, 1) := by decide +kernel
theorem dX11_odds_11 : decode cX11_odds 11 = .ok (.ldc2_w 73, 3) := by decide +kernel
theorem dX11_odds_14 : decode cX11_odds 14 = .ok (.invokestatic 69, 3) := by decide +kernel
theorem dX11_odds_17 : decode cX11_odds 17 = .ok (.ifCond .eq 13, 3) := by decide +kernel
theorem dX11_odds_20 : decode cX11_odds 20 = .ok (.aload_n 0, 1) := by decide +kernel
theorem dX11_odds_21 : decode cX11_odds 21 = .ok (.iload_n 1, 1) := by decide +kernel
theorem dX11_odds_22 : decode cX11_odds 22 = .ok (.iload_n 2, 1) := by decide +kernel
theorem dX11_odds_23 : decode cX11_odds 23 = .ok (.iconst 0, 1) := by decide +kernel
theorem dX11_odds_24 : decode cX11_odds 24 = .ok (.invokevirtual 211, 3) := by decide +kernel
theorem dX11_odds_27 : decode cX11_odds 27 = .ok (.goto 4, 3) := by decide +kernel
theorem dX11_odds_30 : decode cX11_odds 30 = .ok (.iconst (-1), 1) := by decide +kernel
theorem dX11_odds_31 : decode cX11_odds 31 = .ok (.ireturn, 1) := by decide +kernel
theorem dX11_mid_0 : decode cX11_mid 0 = .ok (.aload_n 0, 1) := by decide +kernel
theorem dX11_mid_1 : decode cX11_mid 1 = .ok (.iload_n 1, 1) := by decide +kernel
theorem dX11_mid_2 : decode cX11_mid 2 = .ok (.invokevirtual 152, 3) := by decide +kernel
theorem dX11_mid_5 : decode cX11_mid 5 = .ok (.ifCond .eq 25, 3) := by decide +kernel
theorem dX11_mid_8 : decode cX11_mid 8 = .ok (.iload_n 2, 1) := by decide +kernel
theorem dX11_mid_9 : decode cX11_mid 9 = .ok (.i2l, 1) := by decide +kernel
theorem dX11_mid_10 : decode cX11_mid 10 = .ok (.lconst 0, 1) := by decide +kernel
theorem dX11_mid_11 : decode cX11_mid 11 = .ok (.ldc2_w 73, 3) := by decide +kernel
theorem dX11_mid_14 : decode cX11_mid 14 = .ok (.invokestatic 69, 3) := by decide +kernel
theorem dX11_mid_17 : decode cX11_mid 17 = .ok (.ifCond .eq 13, 3) := by decide +kernel
theorem dX11_mid_20 : decode cX11_mid 20 = .ok (.aload_n 0, 1) := by decide +kernel
theorem dX11_mid_21 : decode cX11_mid 21 = .ok (.iload_n 1, 1) := by decide +kernel
theorem dX11_mid_22 : decode cX11_mid 22 = .ok (.iload_n 2, 1) := by decide +kernel
theorem dX11_mid_23 : decode cX11_mid 23 = .ok (.iconst 1, 1) := by decide +kernel
theorem dX11_mid_24 : decode cX11_mid 24 = .ok (.invokevirtual 211, 3) := by decide +kernel
theorem dX11_mid_27 : decode cX11_mid 27 = .ok (.goto 4, 3) := by decide +kernel
theorem dX11_mid_30 : decode cX11_mid 30 = .ok (.iconst (-1), 1) := by decide +kernel
theorem dX11_mid_31 : decode cX11_mid 31 = .ok (.ireturn, 1) := by decide +kernel
theorem dX11_lots_0 : decode cX11_lots 0 = .ok (.iload_n 1, 1) := by decide +kernel
theorem dX11_lots_1 : decode cX11_lots 1 = .ok (.i2l, 1) := by decide +kernel
theorem dX11_lots_2 : decode cX11_lots 2 = .ok (.lconst 1, 1) := by decide +kernel
theorem dX11_lots_3 : decode cX11_lots 3 = .ok (.ldc2_w 215, 3) := by decide +kernel
theorem dX11_lots_6 : decode cX11_lots 6 = .ok (.invokestatic 69, 3) := by decide +kernel
theorem dX11_lots_9 : decode cX11_lots 9 = .ok (.ifCond .eq 15, 3) := by decide +kernel
theorem dX11_lots_12 : decode cX11_lots 12 = .ok (.iload_n 2, 1) := by decide +kernel
theorem dX11_lots_13 : decode cX11_lots 13 = .ok (.i2l, 1) := by decide +kernel
theorem dX11_lots_14 : decode cX11_lots 14 = .ok (.lconst 1, 1) := by decide +kernel
theorem dX11_lots_15 : decode cX11_lots 15 = .ok (.ldc2_w 217, 3) := by decide +kernel
theorem dX11_lots_18 : decode cX11_lots 18 = .ok (.invokestatic 69, 3) := by decide +kernel
theorem dX11_lots_21 : decode cX11_lots 21 = .ok (.ifCond .ne 5, 3) := by decide +kernel
theorem dX11_lots_24 : decode cX11_lots 24 = .ok (.iconst (-1), 1) := by decide +kernel
theorem dX11_lots_25 : decode cX11_lots 25 = .ok (.ireturn, 1) := by decide +kernel
theorem dX11_lots_26 : decode cX11_lots 26 = .ok (.aload_n 0, 1) := by decide +kernel
theorem dX11_lots_27 : decode cX11_lots 27 = .ok (.getfield 124, 3) := by decide +kernel
theorem dX11_lots_30 : decode cX11_lots 30 = .ok (.ifCond .ne 6, 3) := by decide +kernel
theorem dX11_lots_33 : decode cX11_lots 33 = .ok (.bipush (-4), 2) := by decide +kernel
theorem dX11_lots_35 : decode cX11_lots 35 = .ok (.ireturn, 1) := by decide +kernel
theorem dX11_lots_36 : decode cX11_lots 36 = .ok (.aload_n 0, 1) := by decide +kernel
theorem dX11_lots_37 : decode cX11_lots 37 = .ok (.getfield 127, 3) := by decide +kernel
theorem dX11_lots_40 : decode cX11_lots 40 = .ok (.iload_n 1, 1) := by decide +kernel
theorem dX11_lots_41 : decode cX11_lots 41 = .ok (.iadd, 1) := by decide +kernel
theorem dX11_lots_42 : decode cX11_lots 42 = .ok (.bipush 40, 2) := by decide +kernel
theorem dX11_lots_44 : decode cX11_lots 44 = .ok (.if_icmp .le 6, 3) := by decide +kernel
theorem dX11_lots_47 : decode cX11_lots 47 = .ok (.bipush (-2), 2) := by decide +kernel
theorem dX11_lots_49 : decode cX11_lots 49 = .ok (.ireturn, 1) := by decide +kernel
theorem dX11_lots_50 : decode cX11_lots 50 = .ok (.iload_n 2, 1) := by decide +kernel
theorem dX11_lots_51 : decode cX11_lots 51 = .ok (.i2l, 1) := by decide +kernel
theorem dX11_lots_52 : decode cX11_lots 52 = .ok (.lstore_n 3, 1) := by decide +kernel
theorem dX11_lots_53 : decode cX11_lots 53 = .ok (.iconst 0, 1) := by decide +kernel
theorem dX11_lots_54 : decode cX11_lots 54 = .ok (.istore 5, 2) := by decide +kernel
theorem dX11_lots_56 : decode cX11_lots 56 = .ok (.iload 5, 2) := by decide +kernel
theorem dX11_lots_58 : decode cX11_lots 58 = .ok (.iload_n 1, 1) := by decide +kernel
theorem dX11_lots_59 : decode cX11_lots 59 = .ok (.if_icmp .ge 120, 3) := by decide +kernel
theorem dX11_lots_62 : decode cX11_lots 62 = .ok (.lload_n 3, 1) := by decide +kernel
theorem dX11_lots_63 : decode cX11_lots 63 = .ok (.ldc2_w 219, 3) := by decide +kernel
theorem dX11_lots_66 : decode cX11_lots 66 = .ok (.lmul, 1) := by decide +kernel
theorem dX11_lots_67 : decode cX11_lots 67 = .ok (.ldc2_w 221, 3) := by decide +kernel
theorem dX11_lots_70 : decode cX11_lots 70 = .ok (.lrem, 1) := by decide +kernel
theorem dX11_lots_71 : decode cX11_lots 71 = .ok (.lstore_n 3, 1) := by decide +kernel
theorem dX11_lots_72 : decode cX11_lots 72 = .ok (.lload_n 3, 1) := by decide +kernel
theorem dX11_lots_73 : decode cX11_lots 73 = .ok (.l2i, 1) := by decide +kernel
theorem dX11_lots_74 : decode cX11_lots 74 = .ok (.istore 6, 2) := by decide +kernel
theorem dX11_lots_76 : decode cX11_lots 76 = .ok (.aload_n 0, 1) := by decide +kernel
theorem dX11_lots_77 : decode cX11_lots 77 = .ok (.invokevirtual 164, 3) := by decide +kernel
theorem dX11_lots_80 : decode cX11_lots 80 = .ok (.iload 6, 2) := by decide +kernel
theorem dX11_lots_82 : decode cX11_lots 82 = .ok (.bipush 8, 2) := by decide +kernel
theorem dX11_lots_84 : decode cX11_lots 84 = .ok (.idiv, 1) := by decide +kernel
theorem dX11_lots_85 : decode cX11_lots 85 = .ok (.bipush 8, 2) := by decide +kernel
theorem dX11_lots_87 : decode cX11_lots 87 = .ok (.irem, 1) := by decide +kernel
theorem dX11_lots_88 : decode cX11_lots 88 = .ok (.bipush 7, 2) := by decide +kernel
theorem dX11_lots_90 : decode cX11_lots 90 = .ok (.if_icmp .eq 12, 3) := by decide +kernel
theorem dX11_lots_93 : decode cX11_lots 93 = .ok (.aload_n 0, 1) := by decide +kernel
theorem dX11_lots_94 : decode cX11_lots 94 = .ok (.getfield 38, 3) := by decide +kernel
theorem dX11_lots_97 : decode cX11_lots 97 = .ok (.iconst 5, 1) := by decide +kernel
theorem dX11_lots_98 : decode cX11_lots 98 = .ok (.iaload, 1) := by decide +kernel
theorem dX11_lots_99 : decode cX11_lots 99 = .ok (.ifCond .ne 31, 3) := by decide +kernel
theorem dX11_lots_102 : decode cX11_lots 102 = .ok (.aload_n 0, 1) := by decide +kernel
theorem dX11_lots_103 : decode cX11_lots 103 = .ok (.getfield 38, 3) := by decide +kernel
theorem dX11_lots_106 : decode cX11_lots 106 = .ok (.iload 6, 2) := by decide +kernel
theorem dX11_lots_108 : decode cX11_lots 108 = .ok (.aload_n 0, 1) := by decide +kernel
theorem dX11_lots_109 : decode cX11_lots 109 = .ok (.getfield 124, 3) := by decide +kernel
theorem dX11_lots_112 : decode cX11_lots 112 = .ok (.irem, 1) := by decide +kernel
theorem dX11_lots_113 : decode cX11_lots 113 = .ok (.dup2, 1) := by decide +kernel
theorem dX11_lots_114 : decode cX11_lots 114 = .ok (.iaload, 1) := by decide +kernel
theorem dX11_lots_115 : decode cX11_lots 115 = .ok (.iconst 1, 1) := by decide +kernel
theorem dX11_lots_116 : decode cX11_lots 116 = .ok (.iload 6, 2) := by decide +kernel
theorem dX11_lots_118 : decode cX11_lots 118 = .ok (.bipush 64, 2) := by decide +kernel
theorem dX11_lots_120 : decode cX11_lots 120 = .ok (.idiv, 1) := by decide +kernel
theorem dX11_lots_121 : decode cX11_lots 121 = .ok (.bipush 6, 2) := by decide +kernel
theorem dX11_lots_123 : decode cX11_lots 123 = .ok (.irem, 1) := by decide +kernel
theorem dX11_lots_124 : decode cX11_lots 124 = .ok (.ishl, 1) := by decide +kernel
theorem dX11_lots_125 : decode cX11_lots 125 = .ok (.ixor, 1) := by decide +kernel
theorem dX11_lots_126 : decode cX11_lots 126 = .ok (.iastore, 1) := by decide +kernel
theorem dX11_lots_127 : decode cX11_lots 127 = .ok (.goto 46, 3) := by decide +kernel
theorem dX11_lots_130 : decode cX11_lots 130 = .ok (.iload 6, 2) := by decide +kernel
theorem dX11_lots_132 : decode cX11_lots 132 = .ok (.bipush 12, 2) := by decide +kernel
theorem dX11_lots_134 : decode cX11_lots 134 = .ok (.irem, 1) := by decide +kernel
theorem dX11_lots_135 : decode cX11_lots 135 = .ok (.iconst 1, 1) := by decide +kernel
theorem dX11_lots_136 : decode cX11_lots 136 = .ok (.iadd, 1) := by decide +kernel
theorem dX11_lots_137 : decode cX11_lots 137 = .ok (.istore 7, 2) := by decide +kernel
theorem dX11_lots_139 : decode cX11_lots 139 = .ok (.aload_n 0, 1) := by decide +kernel
theorem dX11_lots_140 : decode cX11_lots 140 = .ok (.getfield 38, 3) := by decide +kernel
theorem dX11_lots_143 : decode cX11_lots 143 = .ok (.iconst 5, 1) := by decide +kernel
theorem dX11_lots_144 : decode cX11_lots 144 = .ok (.iaload, 1) := by decide +kernel
theorem dX11_lots_145 : decode cX11_lots 145 = .ok (.iload 7, 2) := by decide +kernel
theorem dX11_lots_147 : decode cX11_lots 147 = .ok (.invokestatic 139, 3) := by decide +kernel
theorem dX11_lots_150 : decode cX11_lots 150 = .ok (.ifCond .ne 15, 3) := by decide +kernel
theorem dX11_lots_153 : decode cX11_lots 153 = .ok (.iload 7, 2) := by decide +kernel
theorem dX11_lots_155 : decode cX11_lots 155 = .ok (.bipush 12, 2) := by decide +kernel
theorem dX11_lots_157 : decode cX11_lots 157 = .ok (.irem, 1) := by decide +kernel
theorem dX11_lots_158 : decode cX11_lots 158 = .ok (.iconst 1, 1) := by decide +kernel
theorem dX11_lots_159 : decode cX11_lots 159 = .ok (.iadd, 1) := by decide +kernel
theorem dX11_lots_160 : decode cX11_lots 160 = .ok (.istore 7, 2) := by decide +kernel
theorem dX11_lots_162 : decode cX11_lots 162 = .ok (.goto (-23), 3) := by decide +kernel
theorem dX11_lots_165 : decode cX11_lots 165 = .ok (.aload_n 0, 1) := by decide +kernel
theorem dX11_lots_166 : decode cX11_lots 166 = .ok (.iconst 0, 1) := by decide +kernel
theorem dX11_lots_167 : decode cX11_lots 167 = .ok (.iload 7, 2) := by decide +kernel
theorem dX11_lots_169 : decode cX11_lots 169 = .ok (.invokevirtual 167, 3) := by decide +kernel
theorem dX11_lots_172 : decode cX11_lots 172 = .ok (.pop, 1) := by decide +kernel
theorem dX11_lots_173 : decode cX11_lots 173 = .ok (.iinc 5 1, 3) := by decide +kernel
theorem dX11_lots_176 : decode cX11_lots 176 = .ok (.goto (-120), 3) := by decide +kernel
theorem dX11_lots_179 : decode cX11_lots 179 = .ok (.aload_n 0, 1) := by decide +kernel
theorem dX11_lots_180 : decode cX11_lots 180 = .ok (.getfield 38, 3) := by decide +kernel
theorem dX11_lots_183 : decode cX11_lots 183 = .ok (.iconst 4, 1) := by decide +kernel
theorem dX11_lots_184 : decode cX11_lots 184 = .ok (.iaload, 1) := by decide +kernel
theorem dX11_lots_185 : decode cX11_lots 185 = .ok (.ireturn, 1) := by decide +kernel
theorem dX11_asked_0 : decode cX11_asked 0 = .ok (.aload_n 0, 1) := by decide +kernel
theorem dX11_asked_1 : decode cX11_asked 1 = .ok (.getfield 64, 3) := by decide +kernel
theorem dX11_asked_4 : decode cX11_asked 4 = .ok (.ireturn, 1) := by decide +kernel
theorem dX11_upper_0 : decode cX11_upper 0 = .ok (.aload_n 0, 1) := by decide +kernel
theorem dX11_upper_1 : decode cX11_upper 1 = .ok (.getfield 204, 3) := by decide +kernel
theorem dX11_upper_4 : decode cX11_upper 4 = .ok (.lreturn, 1) := by decide +kernel
theorem dX11_lower_0 : decode cX11_lower 0 = .ok (.aload_n 0, 1) := by decide +kernel
theorem dX11_lower_1 : decode cX11_lower 1 = .ok (.getfield 44, 3) := by decide +kernel
theorem dX11_lower_4 : decode cX11_lower 4 = .ok (.lreturn, 1) := by decide +kernel
theorem dX11_manyOf_0 : decode cX11_manyOf 0 = .ok (.iconst 0, 1) := by decide +kernel
theorem dX11_manyOf_1 : decode cX11_manyOf 1 = .ok (.istore_n 2, 1) := by decide +kernel
theorem dX11_manyOf_2 : decode cX11_manyOf 2 = .ok (.iconst 0, 1) := by decide +kernel
theorem dX11_manyOf_3 : decode cX11_manyOf 3 = .ok (.istore_n 3, 1) := by decide +kernel
theorem dX11_manyOf_4 : decode cX11_manyOf 4 = .ok (.iload_n 3, 1) := by decide +kernel
theorem dX11_manyOf_5 : decode cX11_manyOf 5 = .ok (.aload_n 0, 1) := by decide +kernel
theorem dX11_manyOf_6 : decode cX11_manyOf 6 = .ok (.getfield 124, 3) := by decide +kernel
theorem dX11_manyOf_9 : decode cX11_manyOf 9 = .ok (.if_icmp .ge 30, 3) := by decide +kernel
theorem dX11_manyOf_12 : decode cX11_manyOf 12 = .ok (.iload_n 2, 1) := by decide +kernel
theorem dX11_manyOf_13 : decode cX11_manyOf 13 = .ok (.aload_n 0, 1) := by decide +kernel
theorem dX11_manyOf_14 : decode cX11_manyOf 14 = .ok (.getfield 26, 3) := by decide +kernel
theorem dX11_manyOf_17 : decode cX11_manyOf 17 = .ok (.iload_n 3, 1) := by decide +kernel
theorem dX11_manyOf_18 : decode cX11_manyOf 18 = .ok (.iaload, 1) := by decide +kernel
theorem dX11_manyOf_19 : decode cX11_manyOf 19 = .ok (.iload_n 1, 1) := by decide +kernel
theorem dX11_manyOf_20 : decode cX11_manyOf 20 = .ok (.invokestatic 130, 3) := by decide +kernel
theorem dX11_manyOf_23 : decode cX11_manyOf 23 = .ok (.ifCond .eq 7, 3) := by decide +kernel
theorem dX11_manyOf_26 : decode cX11_manyOf 26 = .ok (.iconst 1, 1) := by decide +kernel
theorem dX11_manyOf_27 : decode cX11_manyOf 27 = .ok (.goto 4, 3) := by decide +kernel
theorem dX11_manyOf_30 : decode cX11_manyOf 30 = .ok (.iconst 0, 1) := by decide +kernel
theorem dX11_manyOf_31 : decode cX11_manyOf 31 = .ok (.iadd, 1) := by decide +kernel
theorem dX11_manyOf_32 : decode cX11_manyOf 32 = .ok (.istore_n 2, 1) := by decide +kernel
theorem dX11_manyOf_33 : decode cX11_manyOf 33 = .ok (.iinc 3 1, 3) := by decide +kernel
theorem dX11_manyOf_36 : decode cX11_manyOf 36 = .ok (.goto (-32), 3) := by decide +kernel
theorem dX11_manyOf_39 : decode cX11_manyOf 39 = .ok (.iload_n 2, 1) := by decide +kernel
theorem dX11_manyOf_40 : decode cX11_manyOf 40 = .ok (.ireturn, 1) := by decide +kernel
theorem dX11_allMarks_0 : decode cX11_allMarks 0 = .ok (.iconst 0, 1) := by decide +kernel
theorem dX11_allMarks_1 : decode cX11_allMarks 1 = .ok (.istore_n 1, 1) := by decide +kernel
theorem dX11_allMarks_2 : decode cX11_allMarks 2 = .ok (.iconst 0, 1) := by decide +kernel
theorem dX11_allMarks_3 : decode cX11_allMarks 3 = .ok (.istore_n 2, 1) := by decide +kernel
theorem dX11_allMarks_4 : decode cX11_allMarks 4 = .ok (.iload_n 2, 1) := by decide +kernel
theorem dX11_allMarks_5 : decode cX11_allMarks 5 = .ok (.aload_n 0, 1) := by decide +kernel
theorem dX11_allMarks_6 : decode cX11_allMarks 6 = .ok (.getfield 124, 3) := by decide +kernel
theorem dX11_allMarks_9 : decode cX11_allMarks 9 = .ok (.if_icmp .ge 21, 3) := by decide +kernel
theorem dX11_allMarks_12 : decode cX11_allMarks 12 = .ok (.iload_n 1, 1) := by decide +kernel
theorem dX11_allMarks_13 : decode cX11_allMarks 13 = .ok (.aload_n 0, 1) := by decide +kernel
theorem dX11_allMarks_14 : decode cX11_allMarks 14 = .ok (.getfield 38, 3) := by decide +kernel
theorem dX11_allMarks_17 : decode cX11_allMarks 17 = .ok (.iload_n 2, 1) := by decide +kernel
theorem dX11_allMarks_18 : decode cX11_allMarks 18 = .ok (.iaload, 1) := by decide +kernel
theorem dX11_allMarks_19 : decode cX11_allMarks 19 = .ok (.invokestatic 133, 3) := by decide +kernel
theorem dX11_allMarks_22 : decode cX11_allMarks 22 = .ok (.iadd, 1) := by decide +kernel
theorem dX11_allMarks_23 : decode cX11_allMarks 23 = .ok (.istore_n 1, 1) := by decide +kernel
theorem dX11_allMarks_24 : decode cX11_allMarks 24 = .ok (.iinc 2 1, 3) := by decide +kernel
theorem dX11_allMarks_27 : decode cX11_allMarks 27 = .ok (.goto (-23), 3) := by decide +kernel
theorem dX11_allMarks_30 : decode cX11_allMarks 30 = .ok (.iload_n 1, 1) := by decide +kernel
theorem dX11_allMarks_31 : decode cX11_allMarks 31 = .ok (.ireturn, 1) := by decide +kernel
theorem dX11_thereAre_0 : decode cX11_thereAre 0 = .ok (.iconst 0, 1) := by decide +kernel
theorem dX11_thereAre_1 : decode cX11_thereAre 1 = .ok (.istore_n 2, 1) := by decide +kernel
theorem dX11_thereAre_2 : decode cX11_thereAre 2 = .ok (.iconst 0, 1) := by decide +kernel
theorem dX11_thereAre_3 : decode cX11_thereAre 3 = .ok (.istore_n 3, 1) := by decide +kernel
theorem dX11_thereAre_4 : decode cX11_thereAre 4 = .ok (.iload_n 3, 1) := by decide +kernel
theorem dX11_thereAre_5 : decode cX11_thereAre 5 = .ok (.iload_n 1, 1) := by decide +kernel
theorem dX11_thereAre_6 : decode cX11_thereAre 6 = .ok (.bipush 9, 2) := by decide +kernel
theorem dX11_thereAre_8 : decode cX11_thereAre 8 = .ok (.if_icmp .ne 8, 3) := by decide +kernel
theorem dX11_thereAre_11 : decode cX11_thereAre 11 = .ok (.bipush 6, 2) := by decide +kernel
theorem dX11_thereAre_13 : decode cX11_thereAre 13 = .ok (.goto 14, 3) := by decide +kernel
theorem dX11_thereAre_16 : decode cX11_thereAre 16 = .ok (.iload_n 1, 1) := by decide +kernel
theorem dX11_thereAre_17 : decode cX11_thereAre 17 = .ok (.bipush 10, 2) := by decide +kernel
theorem dX11_thereAre_19 : decode cX11_thereAre 19 = .ok (.if_icmp .ne 7, 3) := by decide +kernel
theorem dX11_thereAre_22 : decode cX11_thereAre 22 = .ok (.iconst 4, 1) := by decide +kernel
theorem dX11_thereAre_23 : decode cX11_thereAre 23 = .ok (.goto 4, 3) := by decide +kernel
theorem dX11_thereAre_26 : decode cX11_thereAre 26 = .ok (.iconst 3, 1) := by decide +kernel
theorem dX11_thereAre_27 : decode cX11_thereAre 27 = .ok (.if_icmp .ge 56, 3) := by decide +kernel
theorem dX11_thereAre_30 : decode cX11_thereAre 30 = .ok (.iload_n 2, 1) := by decide +kernel
theorem dX11_thereAre_31 : decode cX11_thereAre 31 = .ok (.iload_n 1, 1) := by decide +kernel
theorem dX11_thereAre_32 : decode cX11_thereAre 32 = .ok (.bipush 9, 2) := by decide +kernel
theorem dX11_thereAre_34 : decode cX11_thereAre 34 = .ok (.if_icmp .ne 12, 3) := by decide +kernel
theorem dX11_thereAre_37 : decode cX11_thereAre 37 = .ok (.aload_n 0, 1) := by decide +kernel
theorem dX11_thereAre_38 : decode cX11_thereAre 38 = .ok (.getfield 7, 3) := by decide +kernel
theorem dX11_thereAre_41 : decode cX11_thereAre 41 = .ok (.iload_n 3, 1) := by decide +kernel
theorem dX11_thereAre_42 : decode cX11_thereAre 42 = .ok (.iaload, 1) := by decide +kernel
theorem dX11_thereAre_43 : decode cX11_thereAre 43 = .ok (.goto 24, 3) := by decide +kernel
theorem dX11_thereAre_46 : decode cX11_thereAre 46 = .ok (.iload_n 1, 1) := by decide +kernel
theorem dX11_thereAre_47 : decode cX11_thereAre 47 = .ok (.bipush 10, 2) := by decide +kernel
theorem dX11_thereAre_49 : decode cX11_thereAre 49 = .ok (.if_icmp .ne 12, 3) := by decide +kernel
theorem dX11_thereAre_52 : decode cX11_thereAre 52 = .ok (.aload_n 0, 1) := by decide +kernel
theorem dX11_thereAre_53 : decode cX11_thereAre 53 = .ok (.getfield 19, 3) := by decide +kernel
theorem dX11_thereAre_56 : decode cX11_thereAre 56 = .ok (.iload_n 3, 1) := by decide +kernel
theorem dX11_thereAre_57 : decode cX11_thereAre 57 = .ok (.iaload, 1) := by decide +kernel
theorem dX11_thereAre_58 : decode cX11_thereAre 58 = .ok (.goto 9, 3) := by decide +kernel
theorem dX11_thereAre_61 : decode cX11_thereAre 61 = .ok (.aload_n 0, 1) := by decide +kernel
theorem dX11_thereAre_62 : decode cX11_thereAre 62 = .ok (.getfield 41, 3) := by decide +kernel
theorem dX11_thereAre_65 : decode cX11_thereAre 65 = .ok (.iload_n 3, 1) := by decide +kernel
theorem dX11_thereAre_66 : decode cX11_thereAre 66 = .ok (.iaload, 1) := by decide +kernel
theorem dX11_thereAre_67 : decode cX11_thereAre 67 = .ok (.ifCond .ge 7, 3) := by decide +kernel
theorem dX11_thereAre_70 : decode cX11_thereAre 70 = .ok (.iconst 0, 1) := by decide +kernel
theorem dX11_thereAre_71 : decode cX11_thereAre 71 = .ok (.goto 4, 3) := by decide +kernel
theorem dX11_thereAre_74 : decode cX11_thereAre 74 = .ok (.iconst 1, 1) := by decide +kernel
theorem dX11_thereAre_75 : decode cX11_thereAre 75 = .ok (.iadd, 1) := by decide +kernel
theorem dX11_thereAre_76 : decode cX11_thereAre 76 = .ok (.istore_n 2, 1) := by decide +kernel
theorem dX11_thereAre_77 : decode cX11_thereAre 77 = .ok (.iinc 3 1, 3) := by decide +kernel
theorem dX11_thereAre_80 : decode cX11_thereAre 80 = .ok (.goto (-76), 3) := by decide +kernel
theorem dX11_thereAre_83 : decode cX11_thereAre 83 = .ok (.iload_n 2, 1) := by decide +kernel
theorem dX11_thereAre_84 : decode cX11_thereAre 84 = .ok (.ireturn, 1) := by decide +kernel
theorem dX11_countOf_0 : decode cX11_countOf 0 = .ok (.iload_n 1, 1) := by decide +kernel
theorem dX11_countOf_1 : decode cX11_countOf 1 = .ok (.bipush 8, 2) := by decide +kernel
theorem dX11_countOf_3 : decode cX11_countOf 3 = .ok (.if_icmp .le 9, 3) := by decide +kernel
theorem dX11_countOf_6 : decode cX11_countOf 6 = .ok (.aload_n 0, 1) := by decide +kernel
theorem dX11_countOf_7 : decode cX11_countOf 7 = .ok (.iload_n 1, 1) := by decide +kernel
theorem dX11_countOf_8 : decode cX11_countOf 8 = .ok (.invokevirtual 223, 3) := by decide +kernel
theorem dX11_countOf_11 : decode cX11_countOf 11 = .ok (.ireturn, 1) := by decide +kernel
theorem dX11_countOf_12 : decode cX11_countOf 12 = .ok (.iload_n 1, 1) := by decide +kernel
theorem dX11_countOf_13 : decode cX11_countOf 13 = .ok (.ifCond .ne 10, 3) := by decide +kernel
theorem dX11_countOf_16 : decode cX11_countOf 16 = .ok (.aload_n 0, 1) := by decide +kernel
theorem dX11_countOf_17 : decode cX11_countOf 17 = .ok (.getfield 124, 3) := by decide +kernel
theorem dX11_countOf_20 : decode cX11_countOf 20 = .ok (.goto 105, 3) := by decide +kernel
theorem dX11_countOf_23 : decode cX11_countOf 23 = .ok (.iload_n 1, 1) := by decide +kernel
theorem dX11_countOf_24 : decode cX11_countOf 24 = .ok (.iconst 1, 1) := by decide +kernel
theorem dX11_countOf_25 : decode cX11_countOf 25 = .ok (.if_icmp .ne 13, 3) := by decide +kernel
theorem dX11_countOf_28 : decode cX11_countOf 28 = .ok (.aload_n 0, 1) := by decide +kernel
theorem dX11_countOf_29 : decode cX11_countOf 29 = .ok (.getfield 38, 3) := by decide +kernel
theorem dX11_countOf_32 : decode cX11_countOf 32 = .ok (.bipush 6, 2) := by decide +kernel
theorem dX11_countOf_34 : decode cX11_countOf 34 = .ok (.iaload, 1) := by decide +kernel
theorem dX11_countOf_35 : decode cX11_countOf 35 = .ok (.goto 90, 3) := by decide +kernel
theorem dX11_countOf_38 : decode cX11_countOf 38 = .ok (.iload_n 1, 1) := by decide +kernel
theorem dX11_countOf_39 : decode cX11_countOf 39 = .ok (.iconst 2, 1) := by decide +kernel
theorem dX11_countOf_40 : decode cX11_countOf 40 = .ok (.if_icmp .ne 10, 3) := by decide +kernel
theorem dX11_countOf_43 : decode cX11_countOf 43 = .ok (.aload_n 0, 1) := by decide +kernel
theorem dX11_countOf_44 : decode cX11_countOf 44 = .ok (.getfield 127, 3) := by decide +kernel
theorem dX11_countOf_47 : decode cX11_countOf 47 = .ok (.goto 78, 3) := by decide +kernel
theorem dX11_countOf_50 : decode cX11_countOf 50 = .ok (.iload_n 1, 1) := by decide +kernel
theorem dX11_countOf_51 : decode cX11_countOf 51 = .ok (.iconst 3, 1) := by decide +kernel
theorem dX11_countOf_52 : decode cX11_countOf 52 = .ok (.if_icmp .ne 12, 3) := by decide +kernel
theorem dX11_countOf_55 : decode cX11_countOf 55 = .ok (.aload_n 0, 1) := by decide +kernel
theorem dX11_countOf_56 : decode cX11_countOf 56 = .ok (.getfield 38, 3) := by decide +kernel
theorem dX11_countOf_59 : decode cX11_countOf 59 = .ok (.iconst 5, 1) := by decide +kernel
theorem dX11_countOf_60 : decode cX11_countOf 60 = .ok (.iaload, 1) := by decide +kernel
theorem dX11_countOf_61 : decode cX11_countOf 61 = .ok (.goto 64, 3) := by decide +kernel
theorem dX11_countOf_64 : decode cX11_countOf 64 = .ok (.iload_n 1, 1) := by decide +kernel
theorem dX11_countOf_65 : decode cX11_countOf 65 = .ok (.iconst 4, 1) := by decide +kernel
theorem dX11_countOf_66 : decode cX11_countOf 66 = .ok (.if_icmp .ne 13, 3) := by decide +kernel
theorem dX11_countOf_69 : decode cX11_countOf 69 = .ok (.aload_n 0, 1) := by decide +kernel
theorem dX11_countOf_70 : decode cX11_countOf 70 = .ok (.getfield 38, 3) := by decide +kernel
theorem dX11_countOf_73 : decode cX11_countOf 73 = .ok (.bipush 7, 2) := by decide +kernel
theorem dX11_countOf_75 : decode cX11_countOf 75 = .ok (.iaload, 1) := by decide +kernel
theorem dX11_countOf_76 : decode cX11_countOf 76 = .ok (.goto 49, 3) := by decide +kernel
theorem dX11_countOf_79 : decode cX11_countOf 79 = .ok (.iload_n 1, 1) := by decide +kernel
theorem dX11_countOf_80 : decode cX11_countOf 80 = .ok (.iconst 5, 1) := by decide +kernel
theorem dX11_countOf_81 : decode cX11_countOf 81 = .ok (.if_icmp .ne 12, 3) := by decide +kernel
theorem dX11_countOf_84 : decode cX11_countOf 84 = .ok (.aload_n 0, 1) := by decide +kernel
theorem dX11_countOf_85 : decode cX11_countOf 85 = .ok (.getfield 38, 3) := by decide +kernel
theorem dX11_countOf_88 : decode cX11_countOf 88 = .ok (.iconst 4, 1) := by decide +kernel
theorem dX11_countOf_89 : decode cX11_countOf 89 = .ok (.iaload, 1) := by decide +kernel
theorem dX11_countOf_90 : decode cX11_countOf 90 = .ok (.goto 35, 3) := by decide +kernel
theorem dX11_countOf_93 : decode cX11_countOf 93 = .ok (.iload_n 1, 1) := by decide +kernel
theorem dX11_countOf_94 : decode cX11_countOf 94 = .ok (.bipush 6, 2) := by decide +kernel
theorem dX11_countOf_96 : decode cX11_countOf 96 = .ok (.if_icmp .ne 10, 3) := by decide +kernel
theorem dX11_countOf_99 : decode cX11_countOf 99 = .ok (.aload_n 0, 1) := by decide +kernel
theorem dX11_countOf_100 : decode cX11_countOf 100 = .ok (.invokevirtual 226, 3) := by decide +kernel
theorem dX11_countOf_103 : decode cX11_countOf 103 = .ok (.goto 22, 3) := by decide +kernel
theorem dX11_countOf_106 : decode cX11_countOf 106 = .ok (.iload_n 1, 1) := by decide +kernel
theorem dX11_countOf_107 : decode cX11_countOf 107 = .ok (.bipush 7, 2) := by decide +kernel
theorem dX11_countOf_109 : decode cX11_countOf 109 = .ok (.if_icmp .ne 11, 3) := by decide +kernel
theorem dX11_countOf_112 : decode cX11_countOf 112 = .ok (.aload_n 0, 1) := by decide +kernel
theorem dX11_countOf_113 : decode cX11_countOf 113 = .ok (.iconst 1, 1) := by decide +kernel
theorem dX11_countOf_114 : decode cX11_countOf 114 = .ok (.invokevirtual 230, 3) := by decide +kernel
theorem dX11_countOf_117 : decode cX11_countOf 117 = .ok (.goto 8, 3) := by decide +kernel
theorem dX11_countOf_120 : decode cX11_countOf 120 = .ok (.aload_n 0, 1) := by decide +kernel
theorem dX11_countOf_121 : decode cX11_countOf 121 = .ok (.iconst 2, 1) := by decide +kernel
theorem dX11_countOf_122 : decode cX11_countOf 122 = .ok (.invokevirtual 230, 3) := by decide +kernel
theorem dX11_countOf_125 : decode cX11_countOf 125 = .ok (.ireturn, 1) := by decide +kernel
theorem dX11_count_0 : decode cX11_count 0 = .ok (.iload_n 1, 1) := by decide +kernel
theorem dX11_count_1 : decode cX11_count 1 = .ok (.i2l, 1) := by decide +kernel
theorem dX11_count_2 : decode cX11_count 2 = .ok (.lconst 0, 1) := by decide +kernel
theorem dX11_count_3 : decode cX11_count 3 = .ok (.ldc2_w 233, 3) := by decide +kernel
theorem dX11_count_6 : decode cX11_count 6 = .ok (.invokestatic 69, 3) := by decide +kernel
theorem dX11_count_9 : decode cX11_count 9 = .ok (.ifCond .eq 11, 3) := by decide +kernel
theorem dX11_count_12 : decode cX11_count 12 = .ok (.aload_n 0, 1) := by decide +kernel
theorem dX11_count_13 : decode cX11_count 13 = .ok (.iload_n 1, 1) := by decide +kernel
theorem dX11_count_14 : decode cX11_count 14 = .ok (.invokevirtual 235, 3) := by decide +kernel
theorem dX11_count_17 : decode cX11_count 17 = .ok (.goto 4, 3) := by decide +kernel
theorem dX11_count_20 : decode cX11_count 20 = .ok (.iconst (-1), 1) := by decide +kernel
theorem dX11_count_21 : decode cX11_count 21 = .ok (.ireturn, 1) := by decide +kernel
theorem dX11_finding_0 : decode cX11_finding 0 = .ok (.aload_n 0, 1) := by decide +kernel
theorem dX11_finding_1 : decode cX11_finding 1 = .ok (.getfield 60, 3) := by decide +kernel
theorem dX11_finding_4 : decode cX11_finding 4 = .ok (.ireturn, 1) := by decide +kernel
theorem dX11_findings_0 : decode cX11_findings 0 = .ok (.iload_n 1, 1) := by decide +kernel
theorem dX11_findings_1 : decode cX11_findings 1 = .ok (.i2l, 1) := by decide +kernel
theorem dX11_findings_2 : decode cX11_findings 2 = .ok (.lconst 1, 1) := by decide +kernel
theorem dX11_findings_3 : decode cX11_findings 3 = .ok (.ldc2_w 67, 3) := by decide +kernel
theorem dX11_findings_6 : decode cX11_findings 6 = .ok (.invokestatic 69, 3) := by decide +kernel
theorem dX11_findings_9 : decode cX11_findings 9 = .ok (.ifCond .eq 12, 3) := by decide +kernel
theorem dX11_findings_12 : decode cX11_findings 12 = .ok (.aload_n 0, 1) := by decide +kernel
theorem dX11_findings_13 : decode cX11_findings 13 = .ok (.getfield 48, 3) := by decide +kernel
theorem dX11_findings_16 : decode cX11_findings 16 = .ok (.iload_n 1, 1) := by decide +kernel
theorem dX11_findings_17 : decode cX11_findings 17 = .ok (.iaload, 1) := by decide +kernel
theorem dX11_findings_18 : decode cX11_findings 18 = .ok (.goto 4, 3) := by decide +kernel
theorem dX11_findings_21 : decode cX11_findings 21 = .ok (.iconst (-1), 1) := by decide +kernel
theorem dX11_findings_22 : decode cX11_findings 22 = .ok (.ireturn, 1) := by decide +kernel
theorem dX11_digest_0 : decode cX11_digest 0 = .ok (.ldc2_w 238, 3) := by decide +kernel
theorem dX11_digest_3 : decode cX11_digest 3 = .ok (.lstore_n 1, 1) := by decide +kernel
theorem dX11_digest_4 : decode cX11_digest 4 = .ok (.iconst 0, 1) := by decide +kernel
theorem dX11_digest_5 : decode cX11_digest 5 = .ok (.istore_n 3, 1) := by decide +kernel
theorem dX11_digest_6 : decode cX11_digest 6 = .ok (.iload_n 3, 1) := by decide +kernel
theorem dX11_digest_7 : decode cX11_digest 7 = .ok (.bipush 12, 2) := by decide +kernel
theorem dX11_digest_9 : decode cX11_digest 9 = .ok (.if_icmp .ge 22, 3) := by decide +kernel
theorem dX11_digest_12 : decode cX11_digest 12 = .ok (.ldc2_w 240, 3) := by decide +kernel
theorem dX11_digest_15 : decode cX11_digest 15 = .ok (.lload_n 1, 1) := by decide +kernel
theorem dX11_digest_16 : decode cX11_digest 16 = .ok (.lmul, 1) := by decide +kernel
theorem dX11_digest_17 : decode cX11_digest 17 = .ok (.aload_n 0, 1) := by decide +kernel
theorem dX11_digest_18 : decode cX11_digest 18 = .ok (.iload_n 3, 1) := by decide +kernel
theorem dX11_digest_19 : decode cX11_digest 19 = .ok (.invokevirtual 235, 3) := by decide +kernel
theorem dX11_digest_22 : decode cX11_digest 22 = .ok (.i2l, 1) := by decide +kernel
theorem dX11_digest_23 : decode cX11_digest 23 = .ok (.ladd, 1) := by decide +kernel
theorem dX11_digest_24 : decode cX11_digest 24 = .ok (.lstore_n 1, 1) := by decide +kernel
theorem dX11_digest_25 : decode cX11_digest 25 = .ok (.iinc 3 1, 3) := by decide +kernel
theorem dX11_digest_28 : decode cX11_digest 28 = .ok (.goto (-22), 3) := by decide +kernel
theorem dX11_digest_31 : decode cX11_digest 31 = .ok (.iconst 0, 1) := by decide +kernel
theorem dX11_digest_32 : decode cX11_digest 32 = .ok (.istore_n 3, 1) := by decide +kernel
theorem dX11_digest_33 : decode cX11_digest 33 = .ok (.iload_n 3, 1) := by decide +kernel
theorem dX11_digest_34 : decode cX11_digest 34 = .ok (.aload_n 0, 1) := by decide +kernel
theorem dX11_digest_35 : decode cX11_digest 35 = .ok (.getfield 124, 3) := by decide +kernel
theorem dX11_digest_38 : decode cX11_digest 38 = .ok (.if_icmp .ge 75, 3) := by decide +kernel
theorem dX11_digest_41 : decode cX11_digest 41 = .ok (.iconst 0, 1) := by decide +kernel
theorem dX11_digest_42 : decode cX11_digest 42 = .ok (.istore 4, 2) := by decide +kernel
theorem dX11_digest_44 : decode cX11_digest 44 = .ok (.iload 4, 2) := by decide +kernel
theorem dX11_digest_46 : decode cX11_digest 46 = .ok (.iconst 5, 1) := by decide +kernel
theorem dX11_digest_47 : decode cX11_digest 47 = .ok (.if_icmp .ge 24, 3) := by decide +kernel
theorem dX11_digest_50 : decode cX11_digest 50 = .ok (.ldc2_w 240, 3) := by decide +kernel
theorem dX11_digest_53 : decode cX11_digest 53 = .ok (.lload_n 1, 1) := by decide +kernel
theorem dX11_digest_54 : decode cX11_digest 54 = .ok (.lmul, 1) := by decide +kernel
theorem dX11_digest_55 : decode cX11_digest 55 = .ok (.aload_n 0, 1) := by decide +kernel
theorem dX11_digest_56 : decode cX11_digest 56 = .ok (.iload_n 3, 1) := by decide +kernel
theorem dX11_digest_57 : decode cX11_digest 57 = .ok (.iload 4, 2) := by decide +kernel
theorem dX11_digest_59 : decode cX11_digest 59 = .ok (.invokevirtual 157, 3) := by decide +kernel
theorem dX11_digest_62 : decode cX11_digest 62 = .ok (.i2l, 1) := by decide +kernel
theorem dX11_digest_63 : decode cX11_digest 63 = .ok (.ladd, 1) := by decide +kernel
theorem dX11_digest_64 : decode cX11_digest 64 = .ok (.lstore_n 1, 1) := by decide +kernel
theorem dX11_digest_65 : decode cX11_digest 65 = .ok (.iinc 4 1, 3) := by decide +kernel
theorem dX11_digest_68 : decode cX11_digest 68 = .ok (.goto (-24), 3) := by decide +kernel
theorem dX11_digest_71 : decode cX11_digest 71 = .ok (.iconst 0, 1) := by decide +kernel
theorem dX11_digest_72 : decode cX11_digest 72 = .ok (.istore 4, 2) := by decide +kernel
theorem dX11_digest_74 : decode cX11_digest 74 = .ok (.iload 4, 2) := by decide +kernel
theorem dX11_digest_76 : decode cX11_digest 76 = .ok (.bipush 6, 2) := by decide +kernel
theorem dX11_digest_78 : decode cX11_digest 78 = .ok (.if_icmp .ge 29, 3) := by decide +kernel
theorem dX11_digest_81 : decode cX11_digest 81 = .ok (.ldc2_w 240, 3) := by decide +kernel
theorem dX11_digest_84 : decode cX11_digest 84 = .ok (.lload_n 1, 1) := by decide +kernel
theorem dX11_digest_85 : decode cX11_digest 85 = .ok (.lmul, 1) := by decide +kernel
theorem dX11_digest_86 : decode cX11_digest 86 = .ok (.aload_n 0, 1) := by decide +kernel
theorem dX11_digest_87 : decode cX11_digest 87 = .ok (.getfield 29, 3) := by decide +kernel
theorem dX11_digest_90 : decode cX11_digest 90 = .ok (.bipush 6, 2) := by decide +kernel
theorem dX11_digest_92 : decode cX11_digest 92 = .ok (.iload_n 3, 1) := by decide +kernel
theorem dX11_digest_93 : decode cX11_digest 93 = .ok (.imul, 1) := by decide +kernel
theorem dX11_digest_94 : decode cX11_digest 94 = .ok (.iload 4, 2) := by decide +kernel
theorem dX11_digest_96 : decode cX11_digest 96 = .ok (.iadd, 1) := by decide +kernel
theorem dX11_digest_97 : decode cX11_digest 97 = .ok (.iaload, 1) := by decide +kernel
theorem dX11_digest_98 : decode cX11_digest 98 = .ok (.i2l, 1) := by decide +kernel
theorem dX11_digest_99 : decode cX11_digest 99 = .ok (.ladd, 1) := by decide +kernel
theorem dX11_digest_100 : decode cX11_digest 100 = .ok (.lstore_n 1, 1) := by decide +kernel
theorem dX11_digest_101 : decode cX11_digest 101 = .ok (.iinc 4 1, 3) := by decide +kernel
theorem dX11_digest_104 : decode cX11_digest 104 = .ok (.goto (-30), 3) := by decide +kernel
theorem dX11_digest_107 : decode cX11_digest 107 = .ok (.iinc 3 1, 3) := by decide +kernel
theorem dX11_digest_110 : decode cX11_digest 110 = .ok (.goto (-77), 3) := by decide +kernel
theorem dX11_digest_113 : decode cX11_digest 113 = .ok (.iconst 0, 1) := by decide +kernel
theorem dX11_digest_114 : decode cX11_digest 114 = .ok (.istore_n 3, 1) := by decide +kernel
theorem dX11_digest_115 : decode cX11_digest 115 = .ok (.iload_n 3, 1) := by decide +kernel
theorem dX11_digest_116 : decode cX11_digest 116 = .ok (.iconst 3, 1) := by decide +kernel
theorem dX11_digest_117 : decode cX11_digest 117 = .ok (.if_icmp .ge 23, 3) := by decide +kernel
theorem dX11_digest_120 : decode cX11_digest 120 = .ok (.ldc2_w 240, 3) := by decide +kernel
theorem dX11_digest_123 : decode cX11_digest 123 = .ok (.lload_n 1, 1) := by decide +kernel
theorem dX11_digest_124 : decode cX11_digest 124 = .ok (.lmul, 1) := by decide +kernel
theorem dX11_digest_125 : decode cX11_digest 125 = .ok (.aload_n 0, 1) := by decide +kernel
theorem dX11_digest_126 : decode cX11_digest 126 = .ok (.getfield 41, 3) := by decide +kernel
theorem dX11_digest_129 : decode cX11_digest 129 = .ok (.iload_n 3, 1) := by decide +kernel
theorem dX11_digest_130 : decode cX11_digest 130 = .ok (.iaload, 1) := by decide +kernel
theorem dX11_digest_131 : decode cX11_digest 131 = .ok (.i2l, 1) := by decide +kernel
theorem dX11_digest_132 : decode cX11_digest 132 = .ok (.ladd, 1) := by decide +kernel
theorem dX11_digest_133 : decode cX11_digest 133 = .ok (.lstore_n 1, 1) := by decide +kernel
theorem dX11_digest_134 : decode cX11_digest 134 = .ok (.iinc 3 1, 3) := by decide +kernel
theorem dX11_digest_137 : decode cX11_digest 137 = .ok (.goto (-22), 3) := by decide +kernel
theorem dX11_digest_140 : decode cX11_digest 140 = .ok (.iconst 0, 1) := by decide +kernel
theorem dX11_digest_141 : decode cX11_digest 141 = .ok (.istore_n 3, 1) := by decide +kernel
theorem dX11_digest_142 : decode cX11_digest 142 = .ok (.iload_n 3, 1) := by decide +kernel
theorem dX11_digest_143 : decode cX11_digest 143 = .ok (.bipush 6, 2) := by decide +kernel
theorem dX11_digest_145 : decode cX11_digest 145 = .ok (.if_icmp .ge 63, 3) := by decide +kernel
theorem dX11_digest_148 : decode cX11_digest 148 = .ok (.ldc2_w 240, 3) := by decide +kernel
theorem dX11_digest_151 : decode cX11_digest 151 = .ok (.lload_n 1, 1) := by decide +kernel
theorem dX11_digest_152 : decode cX11_digest 152 = .ok (.lmul, 1) := by decide +kernel
theorem dX11_digest_153 : decode cX11_digest 153 = .ok (.aload_n 0, 1) := by decide +kernel
theorem dX11_digest_154 : decode cX11_digest 154 = .ok (.getfield 7, 3) := by decide +kernel
theorem dX11_digest_157 : decode cX11_digest 157 = .ok (.iload_n 3, 1) := by decide +kernel
theorem dX11_digest_158 : decode cX11_digest 158 = .ok (.iaload, 1) := by decide +kernel
theorem dX11_digest_159 : decode cX11_digest 159 = .ok (.i2l, 1) := by decide +kernel
theorem dX11_digest_160 : decode cX11_digest 160 = .ok (.ladd, 1) := by decide +kernel
theorem dX11_digest_161 : decode cX11_digest 161 = .ok (.lstore_n 1, 1) := by decide +kernel
theorem dX11_digest_162 : decode cX11_digest 162 = .ok (.iconst 0, 1) := by decide +kernel
theorem dX11_digest_163 : decode cX11_digest 163 = .ok (.istore 4, 2) := by decide +kernel
theorem dX11_digest_165 : decode cX11_digest 165 = .ok (.iload 4, 2) := by decide +kernel
theorem dX11_digest_167 : decode cX11_digest 167 = .ok (.aload_n 0, 1) := by decide +kernel
theorem dX11_digest_168 : decode cX11_digest 168 = .ok (.getfield 7, 3) := by decide +kernel
theorem dX11_digest_171 : decode cX11_digest 171 = .ok (.iload_n 3, 1) := by decide +kernel
theorem dX11_digest_172 : decode cX11_digest 172 = .ok (.iaload, 1) := by decide +kernel
theorem dX11_digest_173 : decode cX11_digest 173 = .ok (.if_icmp .ge 29, 3) := by decide +kernel
theorem dX11_digest_176 : decode cX11_digest 176 = .ok (.ldc2_w 240, 3) := by decide +kernel
theorem dX11_digest_179 : decode cX11_digest 179 = .ok (.lload_n 1, 1) := by decide +kernel
theorem dX11_digest_180 : decode cX11_digest 180 = .ok (.lmul, 1) := by decide +kernel
theorem dX11_digest_181 : decode cX11_digest 181 = .ok (.aload_n 0, 1) := by decide +kernel
theorem dX11_digest_182 : decode cX11_digest 182 = .ok (.getfield 13, 3) := by decide +kernel
theorem dX11_digest_185 : decode cX11_digest 185 = .ok (.bipush 40, 2) := by decide +kernel
theorem dX11_digest_187 : decode cX11_digest 187 = .ok (.iload_n 3, 1) := by decide +kernel
theorem dX11_digest_188 : decode cX11_digest 188 = .ok (.imul, 1) := by decide +kernel
theorem dX11_digest_189 : decode cX11_digest 189 = .ok (.iload 4, 2) := by decide +kernel
theorem dX11_digest_191 : decode cX11_digest 191 = .ok (.iadd, 1) := by decide +kernel
theorem dX11_digest_192 : decode cX11_digest 192 = .ok (.iaload, 1) := by decide +kernel
theorem dX11_digest_193 : decode cX11_digest 193 = .ok (.i2l, 1) := by decide +kernel
theorem dX11_digest_194 : decode cX11_digest 194 = .ok (.ladd, 1) := by decide +kernel
theorem dX11_digest_195 : decode cX11_digest 195 = .ok (.lstore_n 1, 1) := by decide +kernel
theorem dX11_digest_196 : decode cX11_digest 196 = .ok (.iinc 4 1, 3) := by decide +kernel
theorem dX11_digest_199 : decode cX11_digest 199 = .ok (.goto (-34), 3) := by decide +kernel
theorem dX11_digest_202 : decode cX11_digest 202 = .ok (.iinc 3 1, 3) := by decide +kernel
theorem dX11_digest_205 : decode cX11_digest 205 = .ok (.goto (-63), 3) := by decide +kernel
theorem dX11_digest_208 : decode cX11_digest 208 = .ok (.iconst 0, 1) := by decide +kernel
theorem dX11_digest_209 : decode cX11_digest 209 = .ok (.istore_n 3, 1) := by decide +kernel
theorem dX11_digest_210 : decode cX11_digest 210 = .ok (.iload_n 3, 1) := by decide +kernel
theorem dX11_digest_211 : decode cX11_digest 211 = .ok (.iconst 4, 1) := by decide +kernel
theorem dX11_digest_212 : decode cX11_digest 212 = .ok (.if_icmp .ge 63, 3) := by decide +kernel
theorem dX11_digest_215 : decode cX11_digest 215 = .ok (.ldc2_w 240, 3) := by decide +kernel
theorem dX11_digest_218 : decode cX11_digest 218 = .ok (.lload_n 1, 1) := by decide +kernel
theorem dX11_digest_219 : decode cX11_digest 219 = .ok (.lmul, 1) := by decide +kernel
theorem dX11_digest_220 : decode cX11_digest 220 = .ok (.aload_n 0, 1) := by decide +kernel
theorem dX11_digest_221 : decode cX11_digest 221 = .ok (.getfield 19, 3) := by decide +kernel
theorem dX11_digest_224 : decode cX11_digest 224 = .ok (.iload_n 3, 1) := by decide +kernel
theorem dX11_digest_225 : decode cX11_digest 225 = .ok (.iaload, 1) := by decide +kernel
theorem dX11_digest_226 : decode cX11_digest 226 = .ok (.i2l, 1) := by decide +kernel
theorem dX11_digest_227 : decode cX11_digest 227 = .ok (.ladd, 1) := by decide +kernel
theorem dX11_digest_228 : decode cX11_digest 228 = .ok (.lstore_n 1, 1) := by decide +kernel
theorem dX11_digest_229 : decode cX11_digest 229 = .ok (.iconst 0, 1) := by decide +kernel
theorem dX11_digest_230 : decode cX11_digest 230 = .ok (.istore 4, 2) := by decide +kernel
theorem dX11_digest_232 : decode cX11_digest 232 = .ok (.iload 4, 2) := by decide +kernel
theorem dX11_digest_234 : decode cX11_digest 234 = .ok (.aload_n 0, 1) := by decide +kernel
theorem dX11_digest_235 : decode cX11_digest 235 = .ok (.getfield 19, 3) := by decide +kernel
theorem dX11_digest_238 : decode cX11_digest 238 = .ok (.iload_n 3, 1) := by decide +kernel
theorem dX11_digest_239 : decode cX11_digest 239 = .ok (.iaload, 1) := by decide +kernel
theorem dX11_digest_240 : decode cX11_digest 240 = .ok (.if_icmp .ge 29, 3) := by decide +kernel
theorem dX11_digest_243 : decode cX11_digest 243 = .ok (.ldc2_w 240, 3) := by decide +kernel
theorem dX11_digest_246 : decode cX11_digest 246 = .ok (.lload_n 1, 1) := by decide +kernel
theorem dX11_digest_247 : decode cX11_digest 247 = .ok (.lmul, 1) := by decide +kernel
theorem dX11_digest_248 : decode cX11_digest 248 = .ok (.aload_n 0, 1) := by decide +kernel
theorem dX11_digest_249 : decode cX11_digest 249 = .ok (.getfield 22, 3) := by decide +kernel
theorem dX11_digest_252 : decode cX11_digest 252 = .ok (.bipush 60, 2) := by decide +kernel
theorem dX11_digest_254 : decode cX11_digest 254 = .ok (.iload_n 3, 1) := by decide +kernel
theorem dX11_digest_255 : decode cX11_digest 255 = .ok (.imul, 1) := by decide +kernel
theorem dX11_digest_256 : decode cX11_digest 256 = .ok (.iload 4, 2) := by decide +kernel
theorem dX11_digest_258 : decode cX11_digest 258 = .ok (.iadd, 1) := by decide +kernel
theorem dX11_digest_259 : decode cX11_digest 259 = .ok (.baload, 1) := by decide +kernel
theorem dX11_digest_260 : decode cX11_digest 260 = .ok (.i2l, 1) := by decide +kernel
theorem dX11_digest_261 : decode cX11_digest 261 = .ok (.ladd, 1) := by decide +kernel
theorem dX11_digest_262 : decode cX11_digest 262 = .ok (.lstore_n 1, 1) := by decide +kernel
theorem dX11_digest_263 : decode cX11_digest 263 = .ok (.iinc 4 1, 3) := by decide +kernel
theorem dX11_digest_266 : decode cX11_digest 266 = .ok (.goto (-34), 3) := by decide +kernel
theorem dX11_digest_269 : decode cX11_digest 269 = .ok (.iinc 3 1, 3) := by decide +kernel
theorem dX11_digest_272 : decode cX11_digest 272 = .ok (.goto (-62), 3) := by decide +kernel
theorem dX11_digest_275 : decode cX11_digest 275 = .ok (.lload_n 1, 1) := by decide +kernel
theorem dX11_digest_276 : decode cX11_digest 276 = .ok (.lreturn, 1) := by decide +kernel
end
section
theorem dL_law_0 : decode cL_law 0 = .ok (.new 7, 3) := by decide +kernel
theorem dL_law_3 : decode cL_law 3 = .ok (.dup, 1) := by decide +kernel
theorem dL_law_4 : decode cL_law 4 = .ok (.invokespecial 9, 3) := by decide +kernel
theorem dL_law_7 : decode cL_law 7 = .ok (.astore_n 1, 1) := by decide +kernel
theorem dL_law_8 : decode cL_law 8 = .ok (.new 10, 3) := by decide +kernel
theorem dL_law_11 : decode cL_law 11 = .ok (.dup, 1) := by decide +kernel
theorem dL_law_12 : decode cL_law 12 = .ok (.invokespecial 12, 3) := by decide +kernel
theorem dL_law_15 : decode cL_law 15 = .ok (.astore_n 2, 1) := by decide +kernel
theorem dL_law_16 : decode cL_law 16 = .ok (.iconst 0, 1) := by decide +kernel
theorem dL_law_17 : decode cL_law 17 = .ok (.istore_n 3, 1) := by decide +kernel
theorem dL_law_18 : decode cL_law 18 = .ok (.iload_n 3, 1) := by decide +kernel
theorem dL_law_19 : decode cL_law 19 = .ok (.aload_n 0, 1) := by decide +kernel
theorem dL_law_20 : decode cL_law 20 = .ok (.arraylength, 1) := by decide +kernel
theorem dL_law_21 : decode cL_law 21 = .ok (.bipush 6, 2) := by decide +kernel
theorem dL_law_23 : decode cL_law 23 = .ok (.isub, 1) := by decide +kernel
theorem dL_law_24 : decode cL_law 24 = .ok (.if_icmp .gt 1252, 3) := by decide +kernel
theorem dL_law_27 : decode cL_law 27 = .ok (.aload_n 0, 1) := by decide +kernel
theorem dL_law_28 : decode cL_law 28 = .ok (.iload_n 3, 1) := by decide +kernel
theorem dL_law_29 : decode cL_law 29 = .ok (.iaload, 1) := by decide +kernel
theorem dL_law_30 : decode cL_law 30 = .ok (.bipush 63, 2) := by decide +kernel
theorem dL_law_32 : decode cL_law 32 = .ok (.iand, 1) := by decide +kernel
theorem dL_law_33 : decode cL_law 33 = .ok (.tableswitch 1237 0 36 #[163, 196, 239, 272, 295, 358, 381, 414, 457, 480, 503, 536, 569, 602, 625, 658, 681, 704, 727, 780, 803, 816, 849, 882, 915, 948, 981, 1024, 1057, 1090, 1123, 1136, 1150, 1164, 1187, 1200, 1223], 163) := by decide +kernel
theorem dL_law_196 : decode cL_law 196 = .ok (.aload_n 1, 1) := by decide +kernel
theorem dL_law_197 : decode cL_law 197 = .ok (.aload_n 0, 1) := by decide +kernel
theorem dL_law_198 : decode cL_law 198 = .ok (.iload_n 3, 1) := by decide +kernel
theorem dL_law_199 : decode cL_law 199 = .ok (.iconst 1, 1) := by decide +kernel
theorem dL_law_200 : decode cL_law 200 = .ok (.iadd, 1) := by decide +kernel
theorem dL_law_201 : decode cL_law 201 = .ok (.iaload, 1) := by decide +kernel
theorem dL_law_202 : decode cL_law 202 = .ok (.aload_n 0, 1) := by decide +kernel
theorem dL_law_203 : decode cL_law 203 = .ok (.iload_n 3, 1) := by decide +kernel
theorem dL_law_204 : decode cL_law 204 = .ok (.iconst 2, 1) := by decide +kernel
theorem dL_law_205 : decode cL_law 205 = .ok (.iadd, 1) := by decide +kernel
theorem dL_law_206 : decode cL_law 206 = .ok (.iaload, 1) := by decide +kernel
theorem dL_law_207 : decode cL_law 207 = .ok (.invokevirtual 13, 3) := by decide +kernel
theorem dL_law_210 : decode cL_law 210 = .ok (.aload_n 2, 1) := by decide +kernel
theorem dL_law_211 : decode cL_law 211 = .ok (.aload_n 0, 1) := by decide +kernel
theorem dL_law_212 : decode cL_law 212 = .ok (.iload_n 3, 1) := by decide +kernel
theorem dL_law_213 : decode cL_law 213 = .ok (.iconst 1, 1) := by decide +kernel
theorem dL_law_214 : decode cL_law 214 = .ok (.iadd, 1) := by decide +kernel
theorem dL_law_215 : decode cL_law 215 = .ok (.iaload, 1) := by decide +kernel
theorem dL_law_216 : decode cL_law 216 = .ok (.aload_n 0, 1) := by decide +kernel
theorem dL_law_217 : decode cL_law 217 = .ok (.iload_n 3, 1) := by decide +kernel
theorem dL_law_218 : decode cL_law 218 = .ok (.iconst 2, 1) := by decide +kernel
theorem dL_law_219 : decode cL_law 219 = .ok (.iadd, 1) := by decide +kernel
theorem dL_law_220 : decode cL_law 220 = .ok (.iaload, 1) := by decide +kernel
theorem dL_law_221 : decode cL_law 221 = .ok (.invokevirtual 17, 3) := by decide +kernel
theorem dL_law_224 : decode cL_law 224 = .ok (.if_icmp .eq 1046, 3) := by decide +kernel
theorem dL_law_227 : decode cL_law 227 = .ok (.iconst 0, 1) := by decide +kernel
theorem dL_law_228 : decode cL_law 228 = .ok (.ireturn, 1) := by decide +kernel
theorem dL_law_229 : decode cL_law 229 = .ok (.aload_n 1, 1) := by decide +kernel
theorem dL_law_230 : decode cL_law 230 = .ok (.aload_n 0, 1) := by decide +kernel
theorem dL_law_231 : decode cL_law 231 = .ok (.iload_n 3, 1) := by decide +kernel
theorem dL_law_232 : decode cL_law 232 = .ok (.iconst 1, 1) := by decide +kernel
theorem dL_law_233 : decode cL_law 233 = .ok (.iadd, 1) := by decide +kernel
theorem dL_law_234 : decode cL_law 234 = .ok (.iaload, 1) := by decide +kernel
theorem dL_law_235 : decode cL_law 235 = .ok (.aload_n 0, 1) := by decide +kernel
theorem dL_law_236 : decode cL_law 236 = .ok (.iload_n 3, 1) := by decide +kernel
theorem dL_law_237 : decode cL_law 237 = .ok (.iconst 2, 1) := by decide +kernel
theorem dL_law_238 : decode cL_law 238 = .ok (.iadd, 1) := by decide +kernel
theorem dL_law_239 : decode cL_law 239 = .ok (.iaload, 1) := by decide +kernel
theorem dL_law_240 : decode cL_law 240 = .ok (.aload_n 0, 1) := by decide +kernel
theorem dL_law_241 : decode cL_law 241 = .ok (.iload_n 3, 1) := by decide +kernel
theorem dL_law_242 : decode cL_law 242 = .ok (.iconst 3, 1) := by decide +kernel
theorem dL_law_243 : decode cL_law 243 = .ok (.iadd, 1) := by decide +kernel
theorem dL_law_244 : decode cL_law 244 = .ok (.iaload, 1) := by decide +kernel
theorem dL_law_245 : decode cL_law 245 = .ok (.invokevirtual 18, 3) := by decide +kernel
theorem dL_law_248 : decode cL_law 248 = .ok (.aload_n 2, 1) := by decide +kernel
theorem dL_law_249 : decode cL_law 249 = .ok (.aload_n 0, 1) := by decide +kernel
theorem dL_law_250 : decode cL_law 250 = .ok (.iload_n 3, 1) := by decide +kernel
theorem dL_law_251 : decode cL_law 251 = .ok (.iconst 1, 1) := by decide +kernel
theorem dL_law_252 : decode cL_law 252 = .ok (.iadd, 1) := by decide +kernel
theorem dL_law_253 : decode cL_law 253 = .ok (.iaload, 1) := by decide +kernel
theorem dL_law_254 : decode cL_law 254 = .ok (.aload_n 0, 1) := by decide +kernel
theorem dL_law_255 : decode cL_law 255 = .ok (.iload_n 3, 1) := by decide +kernel
theorem dL_law_256 : decode cL_law 256 = .ok (.iconst 2, 1) := by decide +kernel
theorem dL_law_257 : decode cL_law 257 = .ok (.iadd, 1) := by decide +kernel
theorem dL_law_258 : decode cL_law 258 = .ok (.iaload, 1) := by decide +kernel
theorem dL_law_259 : decode cL_law 259 = .ok (.aload_n 0, 1) := by decide +kernel
theorem dL_law_260 : decode cL_law 260 = .ok (.iload_n 3, 1) := by decide +kernel
theorem dL_law_261 : decode cL_law 261 = .ok (.iconst 3, 1) := by decide +kernel
theorem dL_law_262 : decode cL_law 262 = .ok (.iadd, 1) := by decide +kernel
theorem dL_law_263 : decode cL_law 263 = .ok (.iaload, 1) := by decide +kernel
theorem dL_law_264 : decode cL_law 264 = .ok (.invokevirtual 22, 3) := by decide +kernel
theorem dL_law_267 : decode cL_law 267 = .ok (.if_icmp .eq 1003, 3) := by decide +kernel
theorem dL_law_270 : decode cL_law 270 = .ok (.iconst 0, 1) := by decide +kernel
theorem dL_law_271 : decode cL_law 271 = .ok (.ireturn, 1) := by decide +kernel
theorem dL_law_272 : decode cL_law 272 = .ok (.aload_n 1, 1) := by decide +kernel
theorem dL_law_273 : decode cL_law 273 = .ok (.aload_n 0, 1) := by decide +kernel
theorem dL_law_274 : decode cL_law 274 = .ok (.iload_n 3, 1) := by decide +kernel
theorem dL_law_275 : decode cL_law 275 = .ok (.iconst 1, 1) := by decide +kernel
theorem dL_law_276 : decode cL_law 276 = .ok (.iadd, 1) := by decide +kernel
theorem dL_law_277 : decode cL_law 277 = .ok (.iaload, 1) := by decide +kernel
theorem dL_law_278 : decode cL_law 278 = .ok (.aload_n 0, 1) := by decide +kernel
theorem dL_law_279 : decode cL_law 279 = .ok (.iload_n 3, 1) := by decide +kernel
theorem dL_law_280 : decode cL_law 280 = .ok (.iconst 2, 1) := by decide +kernel
theorem dL_law_281 : decode cL_law 281 = .ok (.iadd, 1) := by decide +kernel
theorem dL_law_282 : decode cL_law 282 = .ok (.iaload, 1) := by decide +kernel
theorem dL_law_283 : decode cL_law 283 = .ok (.invokevirtual 23, 3) := by decide +kernel
theorem dL_law_286 : decode cL_law 286 = .ok (.aload_n 2, 1) := by decide +kernel
theorem dL_law_287 : decode cL_law 287 = .ok (.aload_n 0, 1) := by decide +kernel
theorem dL_law_288 : decode cL_law 288 = .ok (.iload_n 3, 1) := by decide +kernel
theorem dL_law_289 : decode cL_law 289 = .ok (.iconst 1, 1) := by decide +kernel
theorem dL_law_290 : decode cL_law 290 = .ok (.iadd, 1) := by decide +kernel
theorem dL_law_291 : decode cL_law 291 = .ok (.iaload, 1) := by decide +kernel
theorem dL_law_292 : decode cL_law 292 = .ok (.aload_n 0, 1) := by decide +kernel
theorem dL_law_293 : decode cL_law 293 = .ok (.iload_n 3, 1) := by decide +kernel
theorem dL_law_294 : decode cL_law 294 = .ok (.iconst 2, 1) := by decide +kernel
theorem dL_law_295 : decode cL_law 295 = .ok (.iadd, 1) := by decide +kernel
theorem dL_law_296 : decode cL_law 296 = .ok (.iaload, 1) := by decide +kernel
theorem dL_law_297 : decode cL_law 297 = .ok (.invokevirtual 26, 3) := by decide +kernel
theorem dL_law_300 : decode cL_law 300 = .ok (.if_icmp .eq 970, 3) := by decide +kernel
theorem dL_law_303 : decode cL_law 303 = .ok (.iconst 0, 1) := by decide +kernel
theorem dL_law_304 : decode cL_law 304 = .ok (.ireturn, 1) := by decide +kernel
theorem dL_law_305 : decode cL_law 305 = .ok (.aload_n 1, 1) := by decide +kernel
theorem dL_law_306 : decode cL_law 306 = .ok (.aload_n 0, 1) := by decide +kernel
theorem dL_law_307 : decode cL_law 307 = .ok (.iload_n 3, 1) := by decide +kernel
theorem dL_law_308 : decode cL_law 308 = .ok (.iconst 1, 1) := by decide +kernel
theorem dL_law_309 : decode cL_law 309 = .ok (.iadd, 1) := by decide +kernel
theorem dL_law_310 : decode cL_law 310 = .ok (.iaload, 1) := by decide +kernel
theorem dL_law_311 : decode cL_law 311 = .ok (.invokevirtual 27, 3) := by decide +kernel
theorem dL_law_314 : decode cL_law 314 = .ok (.aload_n 2, 1) := by decide +kernel
theorem dL_law_315 : decode cL_law 315 = .ok (.aload_n 0, 1) := by decide +kernel
theorem dL_law_316 : decode cL_law 316 = .ok (.iload_n 3, 1) := by decide +kernel
theorem dL_law_317 : decode cL_law 317 = .ok (.iconst 1, 1) := by decide +kernel
theorem dL_law_318 : decode cL_law 318 = .ok (.iadd, 1) := by decide +kernel
theorem dL_law_319 : decode cL_law 319 = .ok (.iaload, 1) := by decide +kernel
theorem dL_law_320 : decode cL_law 320 = .ok (.invokevirtual 31, 3) := by decide +kernel
theorem dL_law_323 : decode cL_law 323 = .ok (.if_icmp .eq 947, 3) := by decide +kernel
theorem dL_law_326 : decode cL_law 326 = .ok (.iconst 0, 1) := by decide +kernel
theorem dL_law_327 : decode cL_law 327 = .ok (.ireturn, 1) := by decide +kernel
theorem dL_law_328 : decode cL_law 328 = .ok (.aload_n 1, 1) := by decide +kernel
theorem dL_law_329 : decode cL_law 329 = .ok (.aload_n 0, 1) := by decide +kernel
theorem dL_law_330 : decode cL_law 330 = .ok (.iload_n 3, 1) := by decide +kernel
theorem dL_law_331 : decode cL_law 331 = .ok (.iconst 1, 1) := by decide +kernel
theorem dL_law_332 : decode cL_law 332 = .ok (.iadd, 1) := by decide +kernel
theorem dL_law_333 : decode cL_law 333 = .ok (.iaload, 1) := by decide +kernel
theorem dL_law_334 : decode cL_law 334 = .ok (.aload_n 0, 1) := by decide +kernel
theorem dL_law_335 : decode cL_law 335 = .ok (.iload_n 3, 1) := by decide +kernel
theorem dL_law_336 : decode cL_law 336 = .ok (.iconst 2, 1) := by decide +kernel
theorem dL_law_337 : decode cL_law 337 = .ok (.iadd, 1) := by decide +kernel
theorem dL_law_338 : decode cL_law 338 = .ok (.iaload, 1) := by decide +kernel
theorem dL_law_339 : decode cL_law 339 = .ok (.aload_n 0, 1) := by decide +kernel
theorem dL_law_340 : decode cL_law 340 = .ok (.iload_n 3, 1) := by decide +kernel
theorem dL_law_341 : decode cL_law 341 = .ok (.iconst 3, 1) := by decide +kernel
theorem dL_law_342 : decode cL_law 342 = .ok (.iadd, 1) := by decide +kernel
theorem dL_law_343 : decode cL_law 343 = .ok (.iaload, 1) := by decide +kernel
theorem dL_law_344 : decode cL_law 344 = .ok (.aload_n 0, 1) := by decide +kernel
theorem dL_law_345 : decode cL_law 345 = .ok (.iload_n 3, 1) := by decide +kernel
theorem dL_law_346 : decode cL_law 346 = .ok (.iconst 4, 1) := by decide +kernel
theorem dL_law_347 : decode cL_law 347 = .ok (.iadd, 1) := by decide +kernel
theorem dL_law_348 : decode cL_law 348 = .ok (.iaload, 1) := by decide +kernel
theorem dL_law_349 : decode cL_law 349 = .ok (.aload_n 0, 1) := by decide +kernel
theorem dL_law_350 : decode cL_law 350 = .ok (.iload_n 3, 1) := by decide +kernel
theorem dL_law_351 : decode cL_law 351 = .ok (.iconst 5, 1) := by decide +kernel
theorem dL_law_352 : decode cL_law 352 = .ok (.iadd, 1) := by decide +kernel
theorem dL_law_353 : decode cL_law 353 = .ok (.iaload, 1) := by decide +kernel
theorem dL_law_354 : decode cL_law 354 = .ok (.invokevirtual 32, 3) := by decide +kernel
theorem dL_law_357 : decode cL_law 357 = .ok (.aload_n 2, 1) := by decide +kernel
theorem dL_law_358 : decode cL_law 358 = .ok (.aload_n 0, 1) := by decide +kernel
theorem dL_law_359 : decode cL_law 359 = .ok (.iload_n 3, 1) := by decide +kernel
theorem dL_law_360 : decode cL_law 360 = .ok (.iconst 1, 1) := by decide +kernel
theorem dL_law_361 : decode cL_law 361 = .ok (.iadd, 1) := by decide +kernel
theorem dL_law_362 : decode cL_law 362 = .ok (.iaload, 1) := by decide +kernel
theorem dL_law_363 : decode cL_law 363 = .ok (.aload_n 0, 1) := by decide +kernel
theorem dL_law_364 : decode cL_law 364 = .ok (.iload_n 3, 1) := by decide +kernel
theorem dL_law_365 : decode cL_law 365 = .ok (.iconst 2, 1) := by decide +kernel
theorem dL_law_366 : decode cL_law 366 = .ok (.iadd, 1) := by decide +kernel
theorem dL_law_367 : decode cL_law 367 = .ok (.iaload, 1) := by decide +kernel
theorem dL_law_368 : decode cL_law 368 = .ok (.aload_n 0, 1) := by decide +kernel
theorem dL_law_369 : decode cL_law 369 = .ok (.iload_n 3, 1) := by decide +kernel
theorem dL_law_370 : decode cL_law 370 = .ok (.iconst 3, 1) := by decide +kernel
theorem dL_law_371 : decode cL_law 371 = .ok (.iadd, 1) := by decide +kernel
theorem dL_law_372 : decode cL_law 372 = .ok (.iaload, 1) := by decide +kernel
theorem dL_law_373 : decode cL_law 373 = .ok (.aload_n 0, 1) := by decide +kernel
theorem dL_law_374 : decode cL_law 374 = .ok (.iload_n 3, 1) := by decide +kernel
theorem dL_law_375 : decode cL_law 375 = .ok (.iconst 4, 1) := by decide +kernel
theorem dL_law_376 : decode cL_law 376 = .ok (.iadd, 1) := by decide +kernel
theorem dL_law_377 : decode cL_law 377 = .ok (.iaload, 1) := by decide +kernel
theorem dL_law_378 : decode cL_law 378 = .ok (.aload_n 0, 1) := by decide +kernel
theorem dL_law_379 : decode cL_law 379 = .ok (.iload_n 3, 1) := by decide +kernel
theorem dL_law_380 : decode cL_law 380 = .ok (.iconst 5, 1) := by decide +kernel
theorem dL_law_381 : decode cL_law 381 = .ok (.iadd, 1) := by decide +kernel
theorem dL_law_382 : decode cL_law 382 = .ok (.iaload, 1) := by decide +kernel
theorem dL_law_383 : decode cL_law 383 = .ok (.invokevirtual 36, 3) := by decide +kernel
theorem dL_law_386 : decode cL_law 386 = .ok (.if_icmp .eq 884, 3) := by decide +kernel
theorem dL_law_389 : decode cL_law 389 = .ok (.iconst 0, 1) := by decide +kernel
theorem dL_law_390 : decode cL_law 390 = .ok (.ireturn, 1) := by decide +kernel
theorem dL_law_391 : decode cL_law 391 = .ok (.aload_n 1, 1) := by decide +kernel
theorem dL_law_392 : decode cL_law 392 = .ok (.aload_n 0, 1) := by decide +kernel
theorem dL_law_393 : decode cL_law 393 = .ok (.iload_n 3, 1) := by decide +kernel
theorem dL_law_394 : decode cL_law 394 = .ok (.iconst 1, 1) := by decide +kernel
theorem dL_law_395 : decode cL_law 395 = .ok (.iadd, 1) := by decide +kernel
theorem dL_law_396 : decode cL_law 396 = .ok (.iaload, 1) := by decide +kernel
theorem dL_law_397 : decode cL_law 397 = .ok (.invokevirtual 37, 3) := by decide +kernel
theorem dL_law_400 : decode cL_law 400 = .ok (.aload_n 2, 1) := by decide +kernel
theorem dL_law_401 : decode cL_law 401 = .ok (.aload_n 0, 1) := by decide +kernel
theorem dL_law_402 : decode cL_law 402 = .ok (.iload_n 3, 1) := by decide +kernel
theorem dL_law_403 : decode cL_law 403 = .ok (.iconst 1, 1) := by decide +kernel
theorem dL_law_404 : decode cL_law 404 = .ok (.iadd, 1) := by decide +kernel
theorem dL_law_405 : decode cL_law 405 = .ok (.iaload, 1) := by decide +kernel
theorem dL_law_406 : decode cL_law 406 = .ok (.invokevirtual 40, 3) := by decide +kernel
theorem dL_law_409 : decode cL_law 409 = .ok (.if_icmp .eq 861, 3) := by decide +kernel
theorem dL_law_412 : decode cL_law 412 = .ok (.iconst 0, 1) := by decide +kernel
theorem dL_law_413 : decode cL_law 413 = .ok (.ireturn, 1) := by decide +kernel
theorem dL_law_414 : decode cL_law 414 = .ok (.aload_n 1, 1) := by decide +kernel
theorem dL_law_415 : decode cL_law 415 = .ok (.aload_n 0, 1) := by decide +kernel
theorem dL_law_416 : decode cL_law 416 = .ok (.iload_n 3, 1) := by decide +kernel
theorem dL_law_417 : decode cL_law 417 = .ok (.iconst 1, 1) := by decide +kernel
theorem dL_law_418 : decode cL_law 418 = .ok (.iadd, 1) := by decide +kernel
theorem dL_law_419 : decode cL_law 419 = .ok (.iaload, 1) := by decide +kernel
theorem dL_law_420 : decode cL_law 420 = .ok (.aload_n 0, 1) := by decide +kernel
theorem dL_law_421 : decode cL_law 421 = .ok (.iload_n 3, 1) := by decide +kernel
theorem dL_law_422 : decode cL_law 422 = .ok (.iconst 2, 1) := by decide +kernel
theorem dL_law_423 : decode cL_law 423 = .ok (.iadd, 1) := by decide +kernel
theorem dL_law_424 : decode cL_law 424 = .ok (.iaload, 1) := by decide +kernel
theorem dL_law_425 : decode cL_law 425 = .ok (.invokevirtual 41, 3) := by decide +kernel
theorem dL_law_428 : decode cL_law 428 = .ok (.aload_n 2, 1) := by decide +kernel
theorem dL_law_429 : decode cL_law 429 = .ok (.aload_n 0, 1) := by decide +kernel
theorem dL_law_430 : decode cL_law 430 = .ok (.iload_n 3, 1) := by decide +kernel
theorem dL_law_431 : decode cL_law 431 = .ok (.iconst 1, 1) := by decide +kernel
theorem dL_law_432 : decode cL_law 432 = .ok (.iadd, 1) := by decide +kernel
theorem dL_law_433 : decode cL_law 433 = .ok (.iaload, 1) := by decide +kernel
theorem dL_law_434 : decode cL_law 434 = .ok (.aload_n 0, 1) := by decide +kernel
theorem dL_law_435 : decode cL_law 435 = .ok (.iload_n 3, 1) := by decide +kernel
theorem dL_law_436 : decode cL_law 436 = .ok (.iconst 2, 1) := by decide +kernel
theorem dL_law_437 : decode cL_law 437 = .ok (.iadd, 1) := by decide +kernel
theorem dL_law_438 : decode cL_law 438 = .ok (.iaload, 1) := by decide +kernel
theorem dL_law_439 : decode cL_law 439 = .ok (.invokevirtual 44, 3) := by decide +kernel
theorem dL_law_442 : decode cL_law 442 = .ok (.if_icmp .eq 828, 3) := by decide +kernel
theorem dL_law_445 : decode cL_law 445 = .ok (.iconst 0, 1) := by decide +kernel
theorem dL_law_446 : decode cL_law 446 = .ok (.ireturn, 1) := by decide +kernel
theorem dL_law_447 : decode cL_law 447 = .ok (.aload_n 1, 1) := by decide +kernel
theorem dL_law_448 : decode cL_law 448 = .ok (.aload_n 0, 1) := by decide +kernel
theorem dL_law_449 : decode cL_law 449 = .ok (.iload_n 3, 1) := by decide +kernel
theorem dL_law_450 : decode cL_law 450 = .ok (.iconst 1, 1) := by decide +kernel
theorem dL_law_451 : decode cL_law 451 = .ok (.iadd, 1) := by decide +kernel
theorem dL_law_452 : decode cL_law 452 = .ok (.iaload, 1) := by decide +kernel
theorem dL_law_453 : decode cL_law 453 = .ok (.aload_n 0, 1) := by decide +kernel
theorem dL_law_454 : decode cL_law 454 = .ok (.iload_n 3, 1) := by decide +kernel
theorem dL_law_455 : decode cL_law 455 = .ok (.iconst 2, 1) := by decide +kernel
theorem dL_law_456 : decode cL_law 456 = .ok (.iadd, 1) := by decide +kernel
theorem dL_law_457 : decode cL_law 457 = .ok (.iaload, 1) := by decide +kernel
theorem dL_law_458 : decode cL_law 458 = .ok (.aload_n 0, 1) := by decide +kernel
theorem dL_law_459 : decode cL_law 459 = .ok (.iload_n 3, 1) := by decide +kernel
theorem dL_law_460 : decode cL_law 460 = .ok (.iconst 3, 1) := by decide +kernel
theorem dL_law_461 : decode cL_law 461 = .ok (.iadd, 1) := by decide +kernel
theorem dL_law_462 : decode cL_law 462 = .ok (.iaload, 1) := by decide +kernel
theorem dL_law_463 : decode cL_law 463 = .ok (.invokevirtual 45, 3) := by decide +kernel
theorem dL_law_466 : decode cL_law 466 = .ok (.aload_n 2, 1) := by decide +kernel
theorem dL_law_467 : decode cL_law 467 = .ok (.aload_n 0, 1) := by decide +kernel
theorem dL_law_468 : decode cL_law 468 = .ok (.iload_n 3, 1) := by decide +kernel
theorem dL_law_469 : decode cL_law 469 = .ok (.iconst 1, 1) := by decide +kernel
theorem dL_law_470 : decode cL_law 470 = .ok (.iadd, 1) := by decide +kernel
theorem dL_law_471 : decode cL_law 471 = .ok (.iaload, 1) := by decide +kernel
theorem dL_law_472 : decode cL_law 472 = .ok (.aload_n 0, 1) := by decide +kernel
theorem dL_law_473 : decode cL_law 473 = .ok (.iload_n 3, 1) := by decide +kernel
theorem dL_law_474 : decode cL_law 474 = .ok (.iconst 2, 1) := by decide +kernel
theorem dL_law_475 : decode cL_law 475 = .ok (.iadd, 1) := by decide +kernel
theorem dL_law_476 : decode cL_law 476 = .ok (.iaload, 1) := by decide +kernel
theorem dL_law_477 : decode cL_law 477 = .ok (.aload_n 0, 1) := by decide +kernel
theorem dL_law_478 : decode cL_law 478 = .ok (.iload_n 3, 1) := by decide +kernel
theorem dL_law_479 : decode cL_law 479 = .ok (.iconst 3, 1) := by decide +kernel
theorem dL_law_480 : decode cL_law 480 = .ok (.iadd, 1) := by decide +kernel
theorem dL_law_481 : decode cL_law 481 = .ok (.iaload, 1) := by decide +kernel
theorem dL_law_482 : decode cL_law 482 = .ok (.invokevirtual 48, 3) := by decide +kernel
theorem dL_law_485 : decode cL_law 485 = .ok (.if_icmp .eq 785, 3) := by decide +kernel
theorem dL_law_488 : decode cL_law 488 = .ok (.iconst 0, 1) := by decide +kernel
theorem dL_law_489 : decode cL_law 489 = .ok (.ireturn, 1) := by decide +kernel
theorem dL_law_490 : decode cL_law 490 = .ok (.aload_n 1, 1) := by decide +kernel
theorem dL_law_491 : decode cL_law 491 = .ok (.aload_n 0, 1) := by decide +kernel
theorem dL_law_492 : decode cL_law 492 = .ok (.iload_n 3, 1) := by decide +kernel
theorem dL_law_493 : decode cL_law 493 = .ok (.iconst 1, 1) := by decide +kernel
theorem dL_law_494 : decode cL_law 494 = .ok (.iadd, 1) := by decide +kernel
theorem dL_law_495 : decode cL_law 495 = .ok (.iaload, 1) := by decide +kernel
theorem dL_law_496 : decode cL_law 496 = .ok (.invokevirtual 49, 3) := by decide +kernel
theorem dL_law_499 : decode cL_law 499 = .ok (.aload_n 2, 1) := by decide +kernel
theorem dL_law_500 : decode cL_law 500 = .ok (.aload_n 0, 1) := by decide +kernel
theorem dL_law_501 : decode cL_law 501 = .ok (.iload_n 3, 1) := by decide +kernel
theorem dL_law_502 : decode cL_law 502 = .ok (.iconst 1, 1) := by decide +kernel
theorem dL_law_503 : decode cL_law 503 = .ok (.iadd, 1) := by decide +kernel
theorem dL_law_504 : decode cL_law 504 = .ok (.iaload, 1) := by decide +kernel
theorem dL_law_505 : decode cL_law 505 = .ok (.invokevirtual 52, 3) := by decide +kernel
theorem dL_law_508 : decode cL_law 508 = .ok (.if_icmp .eq 762, 3) := by decide +kernel
theorem dL_law_511 : decode cL_law 511 = .ok (.iconst 0, 1) := by decide +kernel
theorem dL_law_512 : decode cL_law 512 = .ok (.ireturn, 1) := by decide +kernel
theorem dL_law_513 : decode cL_law 513 = .ok (.aload_n 1, 1) := by decide +kernel
theorem dL_law_514 : decode cL_law 514 = .ok (.aload_n 0, 1) := by decide +kernel
theorem dL_law_515 : decode cL_law 515 = .ok (.iload_n 3, 1) := by decide +kernel
theorem dL_law_516 : decode cL_law 516 = .ok (.iconst 1, 1) := by decide +kernel
theorem dL_law_517 : decode cL_law 517 = .ok (.iadd, 1) := by decide +kernel
theorem dL_law_518 : decode cL_law 518 = .ok (.iaload, 1) := by decide +kernel
theorem dL_law_519 : decode cL_law 519 = .ok (.invokevirtual 53, 3) := by decide +kernel
theorem dL_law_522 : decode cL_law 522 = .ok (.aload_n 2, 1) := by decide +kernel
theorem dL_law_523 : decode cL_law 523 = .ok (.aload_n 0, 1) := by decide +kernel
theorem dL_law_524 : decode cL_law 524 = .ok (.iload_n 3, 1) := by decide +kernel
theorem dL_law_525 : decode cL_law 525 = .ok (.iconst 1, 1) := by decide +kernel
theorem dL_law_526 : decode cL_law 526 = .ok (.iadd, 1) := by decide +kernel
theorem dL_law_527 : decode cL_law 527 = .ok (.iaload, 1) := by decide +kernel
theorem dL_law_528 : decode cL_law 528 = .ok (.invokevirtual 56, 3) := by decide +kernel
theorem dL_law_531 : decode cL_law 531 = .ok (.if_icmp .eq 739, 3) := by decide +kernel
theorem dL_law_534 : decode cL_law 534 = .ok (.iconst 0, 1) := by decide +kernel
theorem dL_law_535 : decode cL_law 535 = .ok (.ireturn, 1) := by decide +kernel
theorem dL_law_536 : decode cL_law 536 = .ok (.aload_n 1, 1) := by decide +kernel
theorem dL_law_537 : decode cL_law 537 = .ok (.aload_n 0, 1) := by decide +kernel
theorem dL_law_538 : decode cL_law 538 = .ok (.iload_n 3, 1) := by decide +kernel
theorem dL_law_539 : decode cL_law 539 = .ok (.iconst 1, 1) := by decide +kernel
theorem dL_law_540 : decode cL_law 540 = .ok (.iadd, 1) := by decide +kernel
theorem dL_law_541 : decode cL_law 541 = .ok (.iaload, 1) := by decide +kernel
theorem dL_law_542 : decode cL_law 542 = .ok (.aload_n 0, 1) := by decide +kernel
theorem dL_law_543 : decode cL_law 543 = .ok (.iload_n 3, 1) := by decide +kernel
theorem dL_law_544 : decode cL_law 544 = .ok (.iconst 2, 1) := by decide +kernel
theorem dL_law_545 : decode cL_law 545 = .ok (.iadd, 1) := by decide +kernel
theorem dL_law_546 : decode cL_law 546 = .ok (.iaload, 1) := by decide +kernel
theorem dL_law_547 : decode cL_law 547 = .ok (.invokevirtual 57, 3) := by decide +kernel
theorem dL_law_550 : decode cL_law 550 = .ok (.aload_n 2, 1) := by decide +kernel
theorem dL_law_551 : decode cL_law 551 = .ok (.aload_n 0, 1) := by decide +kernel
theorem dL_law_552 : decode cL_law 552 = .ok (.iload_n 3, 1) := by decide +kernel
theorem dL_law_553 : decode cL_law 553 = .ok (.iconst 1, 1) := by decide +kernel
theorem dL_law_554 : decode cL_law 554 = .ok (.iadd, 1) := by decide +kernel
theorem dL_law_555 : decode cL_law 555 = .ok (.iaload, 1) := by decide +kernel
theorem dL_law_556 : decode cL_law 556 = .ok (.aload_n 0, 1) := by decide +kernel
theorem dL_law_557 : decode cL_law 557 = .ok (.iload_n 3, 1) := by decide +kernel
theorem dL_law_558 : decode cL_law 558 = .ok (.iconst 2, 1) := by decide +kernel
theorem dL_law_559 : decode cL_law 559 = .ok (.iadd, 1) := by decide +kernel
theorem dL_law_560 : decode cL_law 560 = .ok (.iaload, 1) := by decide +kernel
theorem dL_law_561 : decode cL_law 561 = .ok (.invokevirtual 60, 3) := by decide +kernel
theorem dL_law_564 : decode cL_law 564 = .ok (.if_icmp .eq 706, 3) := by decide +kernel
theorem dL_law_567 : decode cL_law 567 = .ok (.iconst 0, 1) := by decide +kernel
theorem dL_law_568 : decode cL_law 568 = .ok (.ireturn, 1) := by decide +kernel
theorem dL_law_569 : decode cL_law 569 = .ok (.aload_n 1, 1) := by decide +kernel
theorem dL_law_570 : decode cL_law 570 = .ok (.aload_n 0, 1) := by decide +kernel
theorem dL_law_571 : decode cL_law 571 = .ok (.iload_n 3, 1) := by decide +kernel
theorem dL_law_572 : decode cL_law 572 = .ok (.iconst 1, 1) := by decide +kernel
theorem dL_law_573 : decode cL_law 573 = .ok (.iadd, 1) := by decide +kernel
theorem dL_law_574 : decode cL_law 574 = .ok (.iaload, 1) := by decide +kernel
theorem dL_law_575 : decode cL_law 575 = .ok (.aload_n 0, 1) := by decide +kernel
theorem dL_law_576 : decode cL_law 576 = .ok (.iload_n 3, 1) := by decide +kernel
theorem dL_law_577 : decode cL_law 577 = .ok (.iconst 2, 1) := by decide +kernel
theorem dL_law_578 : decode cL_law 578 = .ok (.iadd, 1) := by decide +kernel
theorem dL_law_579 : decode cL_law 579 = .ok (.iaload, 1) := by decide +kernel
theorem dL_law_580 : decode cL_law 580 = .ok (.invokevirtual 61, 3) := by decide +kernel
theorem dL_law_583 : decode cL_law 583 = .ok (.aload_n 2, 1) := by decide +kernel
theorem dL_law_584 : decode cL_law 584 = .ok (.aload_n 0, 1) := by decide +kernel
theorem dL_law_585 : decode cL_law 585 = .ok (.iload_n 3, 1) := by decide +kernel
theorem dL_law_586 : decode cL_law 586 = .ok (.iconst 1, 1) := by decide +kernel
theorem dL_law_587 : decode cL_law 587 = .ok (.iadd, 1) := by decide +kernel
theorem dL_law_588 : decode cL_law 588 = .ok (.iaload, 1) := by decide +kernel
theorem dL_law_589 : decode cL_law 589 = .ok (.aload_n 0, 1) := by decide +kernel
theorem dL_law_590 : decode cL_law 590 = .ok (.iload_n 3, 1) := by decide +kernel
theorem dL_law_591 : decode cL_law 591 = .ok (.iconst 2, 1) := by decide +kernel
theorem dL_law_592 : decode cL_law 592 = .ok (.iadd, 1) := by decide +kernel
theorem dL_law_593 : decode cL_law 593 = .ok (.iaload, 1) := by decide +kernel
theorem dL_law_594 : decode cL_law 594 = .ok (.invokevirtual 64, 3) := by decide +kernel
theorem dL_law_597 : decode cL_law 597 = .ok (.if_icmp .eq 673, 3) := by decide +kernel
theorem dL_law_600 : decode cL_law 600 = .ok (.iconst 0, 1) := by decide +kernel
theorem dL_law_601 : decode cL_law 601 = .ok (.ireturn, 1) := by decide +kernel
theorem dL_law_602 : decode cL_law 602 = .ok (.aload_n 1, 1) := by decide +kernel
theorem dL_law_603 : decode cL_law 603 = .ok (.aload_n 0, 1) := by decide +kernel
theorem dL_law_604 : decode cL_law 604 = .ok (.iload_n 3, 1) := by decide +kernel
theorem dL_law_605 : decode cL_law 605 = .ok (.iconst 1, 1) := by decide +kernel
theorem dL_law_606 : decode cL_law 606 = .ok (.iadd, 1) := by decide +kernel
theorem dL_law_607 : decode cL_law 607 = .ok (.iaload, 1) := by decide +kernel
theorem dL_law_608 : decode cL_law 608 = .ok (.aload_n 0, 1) := by decide +kernel
theorem dL_law_609 : decode cL_law 609 = .ok (.iload_n 3, 1) := by decide +kernel
theorem dL_law_610 : decode cL_law 610 = .ok (.iconst 2, 1) := by decide +kernel
theorem dL_law_611 : decode cL_law 611 = .ok (.iadd, 1) := by decide +kernel
theorem dL_law_612 : decode cL_law 612 = .ok (.iaload, 1) := by decide +kernel
theorem dL_law_613 : decode cL_law 613 = .ok (.invokevirtual 65, 3) := by decide +kernel
theorem dL_law_616 : decode cL_law 616 = .ok (.aload_n 2, 1) := by decide +kernel
theorem dL_law_617 : decode cL_law 617 = .ok (.aload_n 0, 1) := by decide +kernel
theorem dL_law_618 : decode cL_law 618 = .ok (.iload_n 3, 1) := by decide +kernel
theorem dL_law_619 : decode cL_law 619 = .ok (.iconst 1, 1) := by decide +kernel
theorem dL_law_620 : decode cL_law 620 = .ok (.iadd, 1) := by decide +kernel
theorem dL_law_621 : decode cL_law 621 = .ok (.iaload, 1) := by decide +kernel
theorem dL_law_622 : decode cL_law 622 = .ok (.aload_n 0, 1) := by decide +kernel
theorem dL_law_623 : decode cL_law 623 = .ok (.iload_n 3, 1) := by decide +kernel
theorem dL_law_624 : decode cL_law 624 = .ok (.iconst 2, 1) := by decide +kernel
theorem dL_law_625 : decode cL_law 625 = .ok (.iadd, 1) := by decide +kernel
theorem dL_law_626 : decode cL_law 626 = .ok (.iaload, 1) := by decide +kernel
theorem dL_law_627 : decode cL_law 627 = .ok (.invokevirtual 68, 3) := by decide +kernel
theorem dL_law_630 : decode cL_law 630 = .ok (.if_icmp .eq 640, 3) := by decide +kernel
theorem dL_law_633 : decode cL_law 633 = .ok (.iconst 0, 1) := by decide +kernel
theorem dL_law_634 : decode cL_law 634 = .ok (.ireturn, 1) := by decide +kernel
theorem dL_law_635 : decode cL_law 635 = .ok (.aload_n 1, 1) := by decide +kernel
theorem dL_law_636 : decode cL_law 636 = .ok (.aload_n 0, 1) := by decide +kernel
theorem dL_law_637 : decode cL_law 637 = .ok (.iload_n 3, 1) := by decide +kernel
theorem dL_law_638 : decode cL_law 638 = .ok (.iconst 1, 1) := by decide +kernel
theorem dL_law_639 : decode cL_law 639 = .ok (.iadd, 1) := by decide +kernel
theorem dL_law_640 : decode cL_law 640 = .ok (.iaload, 1) := by decide +kernel
theorem dL_law_641 : decode cL_law 641 = .ok (.invokevirtual 69, 3) := by decide +kernel
theorem dL_law_644 : decode cL_law 644 = .ok (.aload_n 2, 1) := by decide +kernel
theorem dL_law_645 : decode cL_law 645 = .ok (.aload_n 0, 1) := by decide +kernel
theorem dL_law_646 : decode cL_law 646 = .ok (.iload_n 3, 1) := by decide +kernel
theorem dL_law_647 : decode cL_law 647 = .ok (.iconst 1, 1) := by decide +kernel
theorem dL_law_648 : decode cL_law 648 = .ok (.iadd, 1) := by decide +kernel
theorem dL_law_649 : decode cL_law 649 = .ok (.iaload, 1) := by decide +kernel
theorem dL_law_650 : decode cL_law 650 = .ok (.invokevirtual 72, 3) := by decide +kernel
theorem dL_law_653 : decode cL_law 653 = .ok (.if_icmp .eq 617, 3) := by decide +kernel
theorem dL_law_656 : decode cL_law 656 = .ok (.iconst 0, 1) := by decide +kernel
theorem dL_law_657 : decode cL_law 657 = .ok (.ireturn, 1) := by decide +kernel
theorem dL_law_658 : decode cL_law 658 = .ok (.aload_n 1, 1) := by decide +kernel
theorem dL_law_659 : decode cL_law 659 = .ok (.aload_n 0, 1) := by decide +kernel
theorem dL_law_660 : decode cL_law 660 = .ok (.iload_n 3, 1) := by decide +kernel
theorem dL_law_661 : decode cL_law 661 = .ok (.iconst 1, 1) := by decide +kernel
theorem dL_law_662 : decode cL_law 662 = .ok (.iadd, 1) := by decide +kernel
theorem dL_law_663 : decode cL_law 663 = .ok (.iaload, 1) := by decide +kernel
theorem dL_law_664 : decode cL_law 664 = .ok (.aload_n 0, 1) := by decide +kernel
theorem dL_law_665 : decode cL_law 665 = .ok (.iload_n 3, 1) := by decide +kernel
theorem dL_law_666 : decode cL_law 666 = .ok (.iconst 2, 1) := by decide +kernel
theorem dL_law_667 : decode cL_law 667 = .ok (.iadd, 1) := by decide +kernel
theorem dL_law_668 : decode cL_law 668 = .ok (.iaload, 1) := by decide +kernel
theorem dL_law_669 : decode cL_law 669 = .ok (.invokevirtual 73, 3) := by decide +kernel
theorem dL_law_672 : decode cL_law 672 = .ok (.aload_n 2, 1) := by decide +kernel
theorem dL_law_673 : decode cL_law 673 = .ok (.aload_n 0, 1) := by decide +kernel
theorem dL_law_674 : decode cL_law 674 = .ok (.iload_n 3, 1) := by decide +kernel
theorem dL_law_675 : decode cL_law 675 = .ok (.iconst 1, 1) := by decide +kernel
theorem dL_law_676 : decode cL_law 676 = .ok (.iadd, 1) := by decide +kernel
theorem dL_law_677 : decode cL_law 677 = .ok (.iaload, 1) := by decide +kernel
theorem dL_law_678 : decode cL_law 678 = .ok (.aload_n 0, 1) := by decide +kernel
theorem dL_law_679 : decode cL_law 679 = .ok (.iload_n 3, 1) := by decide +kernel
theorem dL_law_680 : decode cL_law 680 = .ok (.iconst 2, 1) := by decide +kernel
theorem dL_law_681 : decode cL_law 681 = .ok (.iadd, 1) := by decide +kernel
theorem dL_law_682 : decode cL_law 682 = .ok (.iaload, 1) := by decide +kernel
theorem dL_law_683 : decode cL_law 683 = .ok (.invokevirtual 76, 3) := by decide +kernel
theorem dL_law_686 : decode cL_law 686 = .ok (.if_icmp .eq 584, 3) := by decide +kernel
theorem dL_law_689 : decode cL_law 689 = .ok (.iconst 0, 1) := by decide +kernel
theorem dL_law_690 : decode cL_law 690 = .ok (.ireturn, 1) := by decide +kernel
theorem dL_law_691 : decode cL_law 691 = .ok (.aload_n 1, 1) := by decide +kernel
theorem dL_law_692 : decode cL_law 692 = .ok (.aload_n 0, 1) := by decide +kernel
theorem dL_law_693 : decode cL_law 693 = .ok (.iload_n 3, 1) := by decide +kernel
theorem dL_law_694 : decode cL_law 694 = .ok (.iconst 1, 1) := by decide +kernel
theorem dL_law_695 : decode cL_law 695 = .ok (.iadd, 1) := by decide +kernel
theorem dL_law_696 : decode cL_law 696 = .ok (.iaload, 1) := by decide +kernel
theorem dL_law_697 : decode cL_law 697 = .ok (.invokevirtual 77, 3) := by decide +kernel
theorem dL_law_700 : decode cL_law 700 = .ok (.aload_n 2, 1) := by decide +kernel
theorem dL_law_701 : decode cL_law 701 = .ok (.aload_n 0, 1) := by decide +kernel
theorem dL_law_702 : decode cL_law 702 = .ok (.iload_n 3, 1) := by decide +kernel
theorem dL_law_703 : decode cL_law 703 = .ok (.iconst 1, 1) := by decide +kernel
theorem dL_law_704 : decode cL_law 704 = .ok (.iadd, 1) := by decide +kernel
theorem dL_law_705 : decode cL_law 705 = .ok (.iaload, 1) := by decide +kernel
theorem dL_law_706 : decode cL_law 706 = .ok (.invokevirtual 80, 3) := by decide +kernel
theorem dL_law_709 : decode cL_law 709 = .ok (.if_icmp .eq 561, 3) := by decide +kernel
theorem dL_law_712 : decode cL_law 712 = .ok (.iconst 0, 1) := by decide +kernel
theorem dL_law_713 : decode cL_law 713 = .ok (.ireturn, 1) := by decide +kernel
theorem dL_law_714 : decode cL_law 714 = .ok (.aload_n 1, 1) := by decide +kernel
theorem dL_law_715 : decode cL_law 715 = .ok (.aload_n 0, 1) := by decide +kernel
theorem dL_law_716 : decode cL_law 716 = .ok (.iload_n 3, 1) := by decide +kernel
theorem dL_law_717 : decode cL_law 717 = .ok (.iconst 1, 1) := by decide +kernel
theorem dL_law_718 : decode cL_law 718 = .ok (.iadd, 1) := by decide +kernel
theorem dL_law_719 : decode cL_law 719 = .ok (.iaload, 1) := by decide +kernel
theorem dL_law_720 : decode cL_law 720 = .ok (.invokevirtual 81, 3) := by decide +kernel
theorem dL_law_723 : decode cL_law 723 = .ok (.aload_n 2, 1) := by decide +kernel
theorem dL_law_724 : decode cL_law 724 = .ok (.aload_n 0, 1) := by decide +kernel
theorem dL_law_725 : decode cL_law 725 = .ok (.iload_n 3, 1) := by decide +kernel
theorem dL_law_726 : decode cL_law 726 = .ok (.iconst 1, 1) := by decide +kernel
theorem dL_law_727 : decode cL_law 727 = .ok (.iadd, 1) := by decide +kernel
theorem dL_law_728 : decode cL_law 728 = .ok (.iaload, 1) := by decide +kernel
theorem dL_law_729 : decode cL_law 729 = .ok (.invokevirtual 84, 3) := by decide +kernel
theorem dL_law_732 : decode cL_law 732 = .ok (.if_icmp .eq 538, 3) := by decide +kernel
theorem dL_law_735 : decode cL_law 735 = .ok (.iconst 0, 1) := by decide +kernel
theorem dL_law_736 : decode cL_law 736 = .ok (.ireturn, 1) := by decide +kernel
theorem dL_law_737 : decode cL_law 737 = .ok (.aload_n 1, 1) := by decide +kernel
theorem dL_law_738 : decode cL_law 738 = .ok (.aload_n 0, 1) := by decide +kernel
theorem dL_law_739 : decode cL_law 739 = .ok (.iload_n 3, 1) := by decide +kernel
theorem dL_law_740 : decode cL_law 740 = .ok (.iconst 1, 1) := by decide +kernel
theorem dL_law_741 : decode cL_law 741 = .ok (.iadd, 1) := by decide +kernel
theorem dL_law_742 : decode cL_law 742 = .ok (.iaload, 1) := by decide +kernel
theorem dL_law_743 : decode cL_law 743 = .ok (.invokevirtual 85, 3) := by decide +kernel
theorem dL_law_746 : decode cL_law 746 = .ok (.aload_n 2, 1) := by decide +kernel
theorem dL_law_747 : decode cL_law 747 = .ok (.aload_n 0, 1) := by decide +kernel
theorem dL_law_748 : decode cL_law 748 = .ok (.iload_n 3, 1) := by decide +kernel
theorem dL_law_749 : decode cL_law 749 = .ok (.iconst 1, 1) := by decide +kernel
theorem dL_law_750 : decode cL_law 750 = .ok (.iadd, 1) := by decide +kernel
theorem dL_law_751 : decode cL_law 751 = .ok (.iaload, 1) := by decide +kernel
theorem dL_law_752 : decode cL_law 752 = .ok (.invokevirtual 88, 3) := by decide +kernel
theorem dL_law_755 : decode cL_law 755 = .ok (.if_icmp .eq 515, 3) := by decide +kernel
theorem dL_law_758 : decode cL_law 758 = .ok (.iconst 0, 1) := by decide +kernel
theorem dL_law_759 : decode cL_law 759 = .ok (.ireturn, 1) := by decide +kernel
theorem dL_law_760 : decode cL_law 760 = .ok (.aload_n 1, 1) := by decide +kernel
theorem dL_law_761 : decode cL_law 761 = .ok (.aload_n 0, 1) := by decide +kernel
theorem dL_law_762 : decode cL_law 762 = .ok (.iload_n 3, 1) := by decide +kernel
theorem dL_law_763 : decode cL_law 763 = .ok (.iconst 1, 1) := by decide +kernel
theorem dL_law_764 : decode cL_law 764 = .ok (.iadd, 1) := by decide +kernel
theorem dL_law_765 : decode cL_law 765 = .ok (.iaload, 1) := by decide +kernel
theorem dL_law_766 : decode cL_law 766 = .ok (.aload_n 0, 1) := by decide +kernel
theorem dL_law_767 : decode cL_law 767 = .ok (.iload_n 3, 1) := by decide +kernel
theorem dL_law_768 : decode cL_law 768 = .ok (.iconst 2, 1) := by decide +kernel
theorem dL_law_769 : decode cL_law 769 = .ok (.iadd, 1) := by decide +kernel
theorem dL_law_770 : decode cL_law 770 = .ok (.iaload, 1) := by decide +kernel
theorem dL_law_771 : decode cL_law 771 = .ok (.aload_n 0, 1) := by decide +kernel
theorem dL_law_772 : decode cL_law 772 = .ok (.iload_n 3, 1) := by decide +kernel
theorem dL_law_773 : decode cL_law 773 = .ok (.iconst 3, 1) := by decide +kernel
theorem dL_law_774 : decode cL_law 774 = .ok (.iadd, 1) := by decide +kernel
theorem dL_law_775 : decode cL_law 775 = .ok (.iaload, 1) := by decide +kernel
theorem dL_law_776 : decode cL_law 776 = .ok (.aload_n 0, 1) := by decide +kernel
theorem dL_law_777 : decode cL_law 777 = .ok (.iload_n 3, 1) := by decide +kernel
theorem dL_law_778 : decode cL_law 778 = .ok (.iconst 4, 1) := by decide +kernel
theorem dL_law_779 : decode cL_law 779 = .ok (.iadd, 1) := by decide +kernel
theorem dL_law_780 : decode cL_law 780 = .ok (.iaload, 1) := by decide +kernel
theorem dL_law_781 : decode cL_law 781 = .ok (.invokevirtual 89, 3) := by decide +kernel
theorem dL_law_784 : decode cL_law 784 = .ok (.aload_n 2, 1) := by decide +kernel
theorem dL_law_785 : decode cL_law 785 = .ok (.aload_n 0, 1) := by decide +kernel
theorem dL_law_786 : decode cL_law 786 = .ok (.iload_n 3, 1) := by decide +kernel
theorem dL_law_787 : decode cL_law 787 = .ok (.iconst 1, 1) := by decide +kernel
theorem dL_law_788 : decode cL_law 788 = .ok (.iadd, 1) := by decide +kernel
theorem dL_law_789 : decode cL_law 789 = .ok (.iaload, 1) := by decide +kernel
theorem dL_law_790 : decode cL_law 790 = .ok (.aload_n 0, 1) := by decide +kernel
theorem dL_law_791 : decode cL_law 791 = .ok (.iload_n 3, 1) := by decide +kernel
theorem dL_law_792 : decode cL_law 792 = .ok (.iconst 2, 1) := by decide +kernel
theorem dL_law_793 : decode cL_law 793 = .ok (.iadd, 1) := by decide +kernel
theorem dL_law_794 : decode cL_law 794 = .ok (.iaload, 1) := by decide +kernel
theorem dL_law_795 : decode cL_law 795 = .ok (.aload_n 0, 1) := by decide +kernel
theorem dL_law_796 : decode cL_law 796 = .ok (.iload_n 3, 1) := by decide +kernel
theorem dL_law_797 : decode cL_law 797 = .ok (.iconst 3, 1) := by decide +kernel
theorem dL_law_798 : decode cL_law 798 = .ok (.iadd, 1) := by decide +kernel
theorem dL_law_799 : decode cL_law 799 = .ok (.iaload, 1) := by decide +kernel
theorem dL_law_800 : decode cL_law 800 = .ok (.aload_n 0, 1) := by decide +kernel
theorem dL_law_801 : decode cL_law 801 = .ok (.iload_n 3, 1) := by decide +kernel
theorem dL_law_802 : decode cL_law 802 = .ok (.iconst 4, 1) := by decide +kernel
theorem dL_law_803 : decode cL_law 803 = .ok (.iadd, 1) := by decide +kernel
theorem dL_law_804 : decode cL_law 804 = .ok (.iaload, 1) := by decide +kernel
theorem dL_law_805 : decode cL_law 805 = .ok (.invokevirtual 93, 3) := by decide +kernel
theorem dL_law_808 : decode cL_law 808 = .ok (.if_icmp .eq 462, 3) := by decide +kernel
theorem dL_law_811 : decode cL_law 811 = .ok (.iconst 0, 1) := by decide +kernel
theorem dL_law_812 : decode cL_law 812 = .ok (.ireturn, 1) := by decide +kernel
theorem dL_law_813 : decode cL_law 813 = .ok (.aload_n 1, 1) := by decide +kernel
theorem dL_law_814 : decode cL_law 814 = .ok (.aload_n 0, 1) := by decide +kernel
theorem dL_law_815 : decode cL_law 815 = .ok (.iload_n 3, 1) := by decide +kernel
theorem dL_law_816 : decode cL_law 816 = .ok (.iconst 1, 1) := by decide +kernel
theorem dL_law_817 : decode cL_law 817 = .ok (.iadd, 1) := by decide +kernel
theorem dL_law_818 : decode cL_law 818 = .ok (.iaload, 1) := by decide +kernel
theorem dL_law_819 : decode cL_law 819 = .ok (.invokevirtual 94, 3) := by decide +kernel
theorem dL_law_822 : decode cL_law 822 = .ok (.aload_n 2, 1) := by decide +kernel
theorem dL_law_823 : decode cL_law 823 = .ok (.aload_n 0, 1) := by decide +kernel
theorem dL_law_824 : decode cL_law 824 = .ok (.iload_n 3, 1) := by decide +kernel
theorem dL_law_825 : decode cL_law 825 = .ok (.iconst 1, 1) := by decide +kernel
theorem dL_law_826 : decode cL_law 826 = .ok (.iadd, 1) := by decide +kernel
theorem dL_law_827 : decode cL_law 827 = .ok (.iaload, 1) := by decide +kernel
theorem dL_law_828 : decode cL_law 828 = .ok (.invokevirtual 97, 3) := by decide +kernel
theorem dL_law_831 : decode cL_law 831 = .ok (.if_icmp .eq 439, 3) := by decide +kernel
theorem dL_law_834 : decode cL_law 834 = .ok (.iconst 0, 1) := by decide +kernel
theorem dL_law_835 : decode cL_law 835 = .ok (.ireturn, 1) := by decide +kernel
theorem dL_law_836 : decode cL_law 836 = .ok (.aload_n 1, 1) := by decide +kernel
theorem dL_law_837 : decode cL_law 837 = .ok (.invokevirtual 98, 3) := by decide +kernel
theorem dL_law_840 : decode cL_law 840 = .ok (.aload_n 2, 1) := by decide +kernel
theorem dL_law_841 : decode cL_law 841 = .ok (.invokevirtual 102, 3) := by decide +kernel
theorem dL_law_844 : decode cL_law 844 = .ok (.if_icmp .eq 426, 3) := by decide +kernel
theorem dL_law_847 : decode cL_law 847 = .ok (.iconst 0, 1) := by decide +kernel
theorem dL_law_848 : decode cL_law 848 = .ok (.ireturn, 1) := by decide +kernel
theorem dL_law_849 : decode cL_law 849 = .ok (.aload_n 1, 1) := by decide +kernel
theorem dL_law_850 : decode cL_law 850 = .ok (.aload_n 0, 1) := by decide +kernel
theorem dL_law_851 : decode cL_law 851 = .ok (.iload_n 3, 1) := by decide +kernel
theorem dL_law_852 : decode cL_law 852 = .ok (.iconst 1, 1) := by decide +kernel
theorem dL_law_853 : decode cL_law 853 = .ok (.iadd, 1) := by decide +kernel
theorem dL_law_854 : decode cL_law 854 = .ok (.iaload, 1) := by decide +kernel
theorem dL_law_855 : decode cL_law 855 = .ok (.aload_n 0, 1) := by decide +kernel
theorem dL_law_856 : decode cL_law 856 = .ok (.iload_n 3, 1) := by decide +kernel
theorem dL_law_857 : decode cL_law 857 = .ok (.iconst 2, 1) := by decide +kernel
theorem dL_law_858 : decode cL_law 858 = .ok (.iadd, 1) := by decide +kernel
theorem dL_law_859 : decode cL_law 859 = .ok (.iaload, 1) := by decide +kernel
theorem dL_law_860 : decode cL_law 860 = .ok (.invokevirtual 103, 3) := by decide +kernel
theorem dL_law_863 : decode cL_law 863 = .ok (.aload_n 2, 1) := by decide +kernel
theorem dL_law_864 : decode cL_law 864 = .ok (.aload_n 0, 1) := by decide +kernel
theorem dL_law_865 : decode cL_law 865 = .ok (.iload_n 3, 1) := by decide +kernel
theorem dL_law_866 : decode cL_law 866 = .ok (.iconst 1, 1) := by decide +kernel
theorem dL_law_867 : decode cL_law 867 = .ok (.iadd, 1) := by decide +kernel
theorem dL_law_868 : decode cL_law 868 = .ok (.iaload, 1) := by decide +kernel
theorem dL_law_869 : decode cL_law 869 = .ok (.aload_n 0, 1) := by decide +kernel
theorem dL_law_870 : decode cL_law 870 = .ok (.iload_n 3, 1) := by decide +kernel
theorem dL_law_871 : decode cL_law 871 = .ok (.iconst 2, 1) := by decide +kernel
theorem dL_law_872 : decode cL_law 872 = .ok (.iadd, 1) := by decide +kernel
theorem dL_law_873 : decode cL_law 873 = .ok (.iaload, 1) := by decide +kernel
theorem dL_law_874 : decode cL_law 874 = .ok (.invokevirtual 106, 3) := by decide +kernel
theorem dL_law_877 : decode cL_law 877 = .ok (.if_icmp .eq 393, 3) := by decide +kernel
theorem dL_law_880 : decode cL_law 880 = .ok (.iconst 0, 1) := by decide +kernel
theorem dL_law_881 : decode cL_law 881 = .ok (.ireturn, 1) := by decide +kernel
theorem dL_law_882 : decode cL_law 882 = .ok (.aload_n 1, 1) := by decide +kernel
theorem dL_law_883 : decode cL_law 883 = .ok (.aload_n 0, 1) := by decide +kernel
theorem dL_law_884 : decode cL_law 884 = .ok (.iload_n 3, 1) := by decide +kernel
theorem dL_law_885 : decode cL_law 885 = .ok (.iconst 1, 1) := by decide +kernel
theorem dL_law_886 : decode cL_law 886 = .ok (.iadd, 1) := by decide +kernel
theorem dL_law_887 : decode cL_law 887 = .ok (.iaload, 1) := by decide +kernel
theorem dL_law_888 : decode cL_law 888 = .ok (.aload_n 0, 1) := by decide +kernel
theorem dL_law_889 : decode cL_law 889 = .ok (.iload_n 3, 1) := by decide +kernel
theorem dL_law_890 : decode cL_law 890 = .ok (.iconst 2, 1) := by decide +kernel
theorem dL_law_891 : decode cL_law 891 = .ok (.iadd, 1) := by decide +kernel
theorem dL_law_892 : decode cL_law 892 = .ok (.iaload, 1) := by decide +kernel
theorem dL_law_893 : decode cL_law 893 = .ok (.invokevirtual 107, 3) := by decide +kernel
theorem dL_law_896 : decode cL_law 896 = .ok (.aload_n 2, 1) := by decide +kernel
theorem dL_law_897 : decode cL_law 897 = .ok (.aload_n 0, 1) := by decide +kernel
theorem dL_law_898 : decode cL_law 898 = .ok (.iload_n 3, 1) := by decide +kernel
theorem dL_law_899 : decode cL_law 899 = .ok (.iconst 1, 1) := by decide +kernel
theorem dL_law_900 : decode cL_law 900 = .ok (.iadd, 1) := by decide +kernel
theorem dL_law_901 : decode cL_law 901 = .ok (.iaload, 1) := by decide +kernel
theorem dL_law_902 : decode cL_law 902 = .ok (.aload_n 0, 1) := by decide +kernel
theorem dL_law_903 : decode cL_law 903 = .ok (.iload_n 3, 1) := by decide +kernel
theorem dL_law_904 : decode cL_law 904 = .ok (.iconst 2, 1) := by decide +kernel
theorem dL_law_905 : decode cL_law 905 = .ok (.iadd, 1) := by decide +kernel
theorem dL_law_906 : decode cL_law 906 = .ok (.iaload, 1) := by decide +kernel
theorem dL_law_907 : decode cL_law 907 = .ok (.invokevirtual 110, 3) := by decide +kernel
theorem dL_law_910 : decode cL_law 910 = .ok (.if_icmp .eq 360, 3) := by decide +kernel
theorem dL_law_913 : decode cL_law 913 = .ok (.iconst 0, 1) := by decide +kernel
theorem dL_law_914 : decode cL_law 914 = .ok (.ireturn, 1) := by decide +kernel
theorem dL_law_915 : decode cL_law 915 = .ok (.aload_n 1, 1) := by decide +kernel
theorem dL_law_916 : decode cL_law 916 = .ok (.aload_n 0, 1) := by decide +kernel
theorem dL_law_917 : decode cL_law 917 = .ok (.iload_n 3, 1) := by decide +kernel
theorem dL_law_918 : decode cL_law 918 = .ok (.iconst 1, 1) := by decide +kernel
theorem dL_law_919 : decode cL_law 919 = .ok (.iadd, 1) := by decide +kernel
theorem dL_law_920 : decode cL_law 920 = .ok (.iaload, 1) := by decide +kernel
theorem dL_law_921 : decode cL_law 921 = .ok (.aload_n 0, 1) := by decide +kernel
theorem dL_law_922 : decode cL_law 922 = .ok (.iload_n 3, 1) := by decide +kernel
theorem dL_law_923 : decode cL_law 923 = .ok (.iconst 2, 1) := by decide +kernel
theorem dL_law_924 : decode cL_law 924 = .ok (.iadd, 1) := by decide +kernel
theorem dL_law_925 : decode cL_law 925 = .ok (.iaload, 1) := by decide +kernel
theorem dL_law_926 : decode cL_law 926 = .ok (.invokevirtual 111, 3) := by decide +kernel
theorem dL_law_929 : decode cL_law 929 = .ok (.aload_n 2, 1) := by decide +kernel
theorem dL_law_930 : decode cL_law 930 = .ok (.aload_n 0, 1) := by decide +kernel
theorem dL_law_931 : decode cL_law 931 = .ok (.iload_n 3, 1) := by decide +kernel
theorem dL_law_932 : decode cL_law 932 = .ok (.iconst 1, 1) := by decide +kernel
theorem dL_law_933 : decode cL_law 933 = .ok (.iadd, 1) := by decide +kernel
theorem dL_law_934 : decode cL_law 934 = .ok (.iaload, 1) := by decide +kernel
theorem dL_law_935 : decode cL_law 935 = .ok (.aload_n 0, 1) := by decide +kernel
theorem dL_law_936 : decode cL_law 936 = .ok (.iload_n 3, 1) := by decide +kernel
theorem dL_law_937 : decode cL_law 937 = .ok (.iconst 2, 1) := by decide +kernel
theorem dL_law_938 : decode cL_law 938 = .ok (.iadd, 1) := by decide +kernel
theorem dL_law_939 : decode cL_law 939 = .ok (.iaload, 1) := by decide +kernel
theorem dL_law_940 : decode cL_law 940 = .ok (.invokevirtual 114, 3) := by decide +kernel
theorem dL_law_943 : decode cL_law 943 = .ok (.if_icmp .eq 327, 3) := by decide +kernel
theorem dL_law_946 : decode cL_law 946 = .ok (.iconst 0, 1) := by decide +kernel
theorem dL_law_947 : decode cL_law 947 = .ok (.ireturn, 1) := by decide +kernel
theorem dL_law_948 : decode cL_law 948 = .ok (.aload_n 1, 1) := by decide +kernel
theorem dL_law_949 : decode cL_law 949 = .ok (.aload_n 0, 1) := by decide +kernel
theorem dL_law_950 : decode cL_law 950 = .ok (.iload_n 3, 1) := by decide +kernel
theorem dL_law_951 : decode cL_law 951 = .ok (.iconst 1, 1) := by decide +kernel
theorem dL_law_952 : decode cL_law 952 = .ok (.iadd, 1) := by decide +kernel
theorem dL_law_953 : decode cL_law 953 = .ok (.iaload, 1) := by decide +kernel
theorem dL_law_954 : decode cL_law 954 = .ok (.aload_n 0, 1) := by decide +kernel
theorem dL_law_955 : decode cL_law 955 = .ok (.iload_n 3, 1) := by decide +kernel
theorem dL_law_956 : decode cL_law 956 = .ok (.iconst 2, 1) := by decide +kernel
theorem dL_law_957 : decode cL_law 957 = .ok (.iadd, 1) := by decide +kernel
theorem dL_law_958 : decode cL_law 958 = .ok (.iaload, 1) := by decide +kernel
theorem dL_law_959 : decode cL_law 959 = .ok (.invokevirtual 115, 3) := by decide +kernel
theorem dL_law_962 : decode cL_law 962 = .ok (.aload_n 2, 1) := by decide +kernel
theorem dL_law_963 : decode cL_law 963 = .ok (.aload_n 0, 1) := by decide +kernel
theorem dL_law_964 : decode cL_law 964 = .ok (.iload_n 3, 1) := by decide +kernel
theorem dL_law_965 : decode cL_law 965 = .ok (.iconst 1, 1) := by decide +kernel
theorem dL_law_966 : decode cL_law 966 = .ok (.iadd, 1) := by decide +kernel
theorem dL_law_967 : decode cL_law 967 = .ok (.iaload, 1) := by decide +kernel
theorem dL_law_968 : decode cL_law 968 = .ok (.aload_n 0, 1) := by decide +kernel
theorem dL_law_969 : decode cL_law 969 = .ok (.iload_n 3, 1) := by decide +kernel
theorem dL_law_970 : decode cL_law 970 = .ok (.iconst 2, 1) := by decide +kernel
theorem dL_law_971 : decode cL_law 971 = .ok (.iadd, 1) := by decide +kernel
theorem dL_law_972 : decode cL_law 972 = .ok (.iaload, 1) := by decide +kernel
theorem dL_law_973 : decode cL_law 973 = .ok (.invokevirtual 118, 3) := by decide +kernel
theorem dL_law_976 : decode cL_law 976 = .ok (.if_icmp .eq 294, 3) := by decide +kernel
theorem dL_law_979 : decode cL_law 979 = .ok (.iconst 0, 1) := by decide +kernel
theorem dL_law_980 : decode cL_law 980 = .ok (.ireturn, 1) := by decide +kernel
theorem dL_law_981 : decode cL_law 981 = .ok (.aload_n 1, 1) := by decide +kernel
theorem dL_law_982 : decode cL_law 982 = .ok (.aload_n 0, 1) := by decide +kernel
theorem dL_law_983 : decode cL_law 983 = .ok (.iload_n 3, 1) := by decide +kernel
theorem dL_law_984 : decode cL_law 984 = .ok (.iconst 1, 1) := by decide +kernel
theorem dL_law_985 : decode cL_law 985 = .ok (.iadd, 1) := by decide +kernel
theorem dL_law_986 : decode cL_law 986 = .ok (.iaload, 1) := by decide +kernel
theorem dL_law_987 : decode cL_law 987 = .ok (.aload_n 0, 1) := by decide +kernel
theorem dL_law_988 : decode cL_law 988 = .ok (.iload_n 3, 1) := by decide +kernel
theorem dL_law_989 : decode cL_law 989 = .ok (.iconst 2, 1) := by decide +kernel
theorem dL_law_990 : decode cL_law 990 = .ok (.iadd, 1) := by decide +kernel
theorem dL_law_991 : decode cL_law 991 = .ok (.iaload, 1) := by decide +kernel
theorem dL_law_992 : decode cL_law 992 = .ok (.invokevirtual 119, 3) := by decide +kernel
theorem dL_law_995 : decode cL_law 995 = .ok (.aload_n 2, 1) := by decide +kernel
theorem dL_law_996 : decode cL_law 996 = .ok (.aload_n 0, 1) := by decide +kernel
theorem dL_law_997 : decode cL_law 997 = .ok (.iload_n 3, 1) := by decide +kernel
theorem dL_law_998 : decode cL_law 998 = .ok (.iconst 1, 1) := by decide +kernel
theorem dL_law_999 : decode cL_law 999 = .ok (.iadd, 1) := by decide +kernel
theorem dL_law_1000 : decode cL_law 1000 = .ok (.iaload, 1) := by decide +kernel
theorem dL_law_1001 : decode cL_law 1001 = .ok (.aload_n 0, 1) := by decide +kernel
theorem dL_law_1002 : decode cL_law 1002 = .ok (.iload_n 3, 1) := by decide +kernel
theorem dL_law_1003 : decode cL_law 1003 = .ok (.iconst 2, 1) := by decide +kernel
theorem dL_law_1004 : decode cL_law 1004 = .ok (.iadd, 1) := by decide +kernel
theorem dL_law_1005 : decode cL_law 1005 = .ok (.iaload, 1) := by decide +kernel
theorem dL_law_1006 : decode cL_law 1006 = .ok (.invokevirtual 122, 3) := by decide +kernel
theorem dL_law_1009 : decode cL_law 1009 = .ok (.if_icmp .eq 261, 3) := by decide +kernel
theorem dL_law_1012 : decode cL_law 1012 = .ok (.iconst 0, 1) := by decide +kernel
theorem dL_law_1013 : decode cL_law 1013 = .ok (.ireturn, 1) := by decide +kernel
theorem dL_law_1014 : decode cL_law 1014 = .ok (.aload_n 1, 1) := by decide +kernel
theorem dL_law_1015 : decode cL_law 1015 = .ok (.aload_n 0, 1) := by decide +kernel
theorem dL_law_1016 : decode cL_law 1016 = .ok (.iload_n 3, 1) := by decide +kernel
theorem dL_law_1017 : decode cL_law 1017 = .ok (.iconst 1, 1) := by decide +kernel
theorem dL_law_1018 : decode cL_law 1018 = .ok (.iadd, 1) := by decide +kernel
theorem dL_law_1019 : decode cL_law 1019 = .ok (.iaload, 1) := by decide +kernel
theorem dL_law_1020 : decode cL_law 1020 = .ok (.aload_n 0, 1) := by decide +kernel
theorem dL_law_1021 : decode cL_law 1021 = .ok (.iload_n 3, 1) := by decide +kernel
theorem dL_law_1022 : decode cL_law 1022 = .ok (.iconst 2, 1) := by decide +kernel
theorem dL_law_1023 : decode cL_law 1023 = .ok (.iadd, 1) := by decide +kernel
theorem dL_law_1024 : decode cL_law 1024 = .ok (.iaload, 1) := by decide +kernel
theorem dL_law_1025 : decode cL_law 1025 = .ok (.aload_n 0, 1) := by decide +kernel
theorem dL_law_1026 : decode cL_law 1026 = .ok (.iload_n 3, 1) := by decide +kernel
theorem dL_law_1027 : decode cL_law 1027 = .ok (.iconst 3, 1) := by decide +kernel
theorem dL_law_1028 : decode cL_law 1028 = .ok (.iadd, 1) := by decide +kernel
theorem dL_law_1029 : decode cL_law 1029 = .ok (.iaload, 1) := by decide +kernel
theorem dL_law_1030 : decode cL_law 1030 = .ok (.invokevirtual 123, 3) := by decide +kernel
theorem dL_law_1033 : decode cL_law 1033 = .ok (.aload_n 2, 1) := by decide +kernel
theorem dL_law_1034 : decode cL_law 1034 = .ok (.aload_n 0, 1) := by decide +kernel
theorem dL_law_1035 : decode cL_law 1035 = .ok (.iload_n 3, 1) := by decide +kernel
theorem dL_law_1036 : decode cL_law 1036 = .ok (.iconst 1, 1) := by decide +kernel
theorem dL_law_1037 : decode cL_law 1037 = .ok (.iadd, 1) := by decide +kernel
theorem dL_law_1038 : decode cL_law 1038 = .ok (.iaload, 1) := by decide +kernel
theorem dL_law_1039 : decode cL_law 1039 = .ok (.aload_n 0, 1) := by decide +kernel
theorem dL_law_1040 : decode cL_law 1040 = .ok (.iload_n 3, 1) := by decide +kernel
theorem dL_law_1041 : decode cL_law 1041 = .ok (.iconst 2, 1) := by decide +kernel
theorem dL_law_1042 : decode cL_law 1042 = .ok (.iadd, 1) := by decide +kernel
theorem dL_law_1043 : decode cL_law 1043 = .ok (.iaload, 1) := by decide +kernel
theorem dL_law_1044 : decode cL_law 1044 = .ok (.aload_n 0, 1) := by decide +kernel
theorem dL_law_1045 : decode cL_law 1045 = .ok (.iload_n 3, 1) := by decide +kernel
theorem dL_law_1046 : decode cL_law 1046 = .ok (.iconst 3, 1) := by decide +kernel
theorem dL_law_1047 : decode cL_law 1047 = .ok (.iadd, 1) := by decide +kernel
theorem dL_law_1048 : decode cL_law 1048 = .ok (.iaload, 1) := by decide +kernel
theorem dL_law_1049 : decode cL_law 1049 = .ok (.invokevirtual 126, 3) := by decide +kernel
theorem dL_law_1052 : decode cL_law 1052 = .ok (.if_icmp .eq 218, 3) := by decide +kernel
theorem dL_law_1055 : decode cL_law 1055 = .ok (.iconst 0, 1) := by decide +kernel
theorem dL_law_1056 : decode cL_law 1056 = .ok (.ireturn, 1) := by decide +kernel
theorem dL_law_1057 : decode cL_law 1057 = .ok (.aload_n 1, 1) := by decide +kernel
theorem dL_law_1058 : decode cL_law 1058 = .ok (.aload_n 0, 1) := by decide +kernel
theorem dL_law_1059 : decode cL_law 1059 = .ok (.iload_n 3, 1) := by decide +kernel
theorem dL_law_1060 : decode cL_law 1060 = .ok (.iconst 1, 1) := by decide +kernel
theorem dL_law_1061 : decode cL_law 1061 = .ok (.iadd, 1) := by decide +kernel
theorem dL_law_1062 : decode cL_law 1062 = .ok (.iaload, 1) := by decide +kernel
theorem dL_law_1063 : decode cL_law 1063 = .ok (.aload_n 0, 1) := by decide +kernel
theorem dL_law_1064 : decode cL_law 1064 = .ok (.iload_n 3, 1) := by decide +kernel
theorem dL_law_1065 : decode cL_law 1065 = .ok (.iconst 2, 1) := by decide +kernel
theorem dL_law_1066 : decode cL_law 1066 = .ok (.iadd, 1) := by decide +kernel
theorem dL_law_1067 : decode cL_law 1067 = .ok (.iaload, 1) := by decide +kernel
theorem dL_law_1068 : decode cL_law 1068 = .ok (.invokevirtual 127, 3) := by decide +kernel
theorem dL_law_1071 : decode cL_law 1071 = .ok (.aload_n 2, 1) := by decide +kernel
theorem dL_law_1072 : decode cL_law 1072 = .ok (.aload_n 0, 1) := by decide +kernel
theorem dL_law_1073 : decode cL_law 1073 = .ok (.iload_n 3, 1) := by decide +kernel
theorem dL_law_1074 : decode cL_law 1074 = .ok (.iconst 1, 1) := by decide +kernel
theorem dL_law_1075 : decode cL_law 1075 = .ok (.iadd, 1) := by decide +kernel
theorem dL_law_1076 : decode cL_law 1076 = .ok (.iaload, 1) := by decide +kernel
theorem dL_law_1077 : decode cL_law 1077 = .ok (.aload_n 0, 1) := by decide +kernel
theorem dL_law_1078 : decode cL_law 1078 = .ok (.iload_n 3, 1) := by decide +kernel
theorem dL_law_1079 : decode cL_law 1079 = .ok (.iconst 2, 1) := by decide +kernel
theorem dL_law_1080 : decode cL_law 1080 = .ok (.iadd, 1) := by decide +kernel
theorem dL_law_1081 : decode cL_law 1081 = .ok (.iaload, 1) := by decide +kernel
theorem dL_law_1082 : decode cL_law 1082 = .ok (.invokevirtual 130, 3) := by decide +kernel
theorem dL_law_1085 : decode cL_law 1085 = .ok (.if_icmp .eq 185, 3) := by decide +kernel
theorem dL_law_1088 : decode cL_law 1088 = .ok (.iconst 0, 1) := by decide +kernel
theorem dL_law_1089 : decode cL_law 1089 = .ok (.ireturn, 1) := by decide +kernel
theorem dL_law_1090 : decode cL_law 1090 = .ok (.aload_n 1, 1) := by decide +kernel
theorem dL_law_1091 : decode cL_law 1091 = .ok (.aload_n 0, 1) := by decide +kernel
theorem dL_law_1092 : decode cL_law 1092 = .ok (.iload_n 3, 1) := by decide +kernel
theorem dL_law_1093 : decode cL_law 1093 = .ok (.iconst 1, 1) := by decide +kernel
theorem dL_law_1094 : decode cL_law 1094 = .ok (.iadd, 1) := by decide +kernel
theorem dL_law_1095 : decode cL_law 1095 = .ok (.iaload, 1) := by decide +kernel
theorem dL_law_1096 : decode cL_law 1096 = .ok (.aload_n 0, 1) := by decide +kernel
theorem dL_law_1097 : decode cL_law 1097 = .ok (.iload_n 3, 1) := by decide +kernel
theorem dL_law_1098 : decode cL_law 1098 = .ok (.iconst 2, 1) := by decide +kernel
theorem dL_law_1099 : decode cL_law 1099 = .ok (.iadd, 1) := by decide +kernel
theorem dL_law_1100 : decode cL_law 1100 = .ok (.iaload, 1) := by decide +kernel
theorem dL_law_1101 : decode cL_law 1101 = .ok (.invokevirtual 131, 3) := by decide +kernel
theorem dL_law_1104 : decode cL_law 1104 = .ok (.aload_n 2, 1) := by decide +kernel
theorem dL_law_1105 : decode cL_law 1105 = .ok (.aload_n 0, 1) := by decide +kernel
theorem dL_law_1106 : decode cL_law 1106 = .ok (.iload_n 3, 1) := by decide +kernel
theorem dL_law_1107 : decode cL_law 1107 = .ok (.iconst 1, 1) := by decide +kernel
theorem dL_law_1108 : decode cL_law 1108 = .ok (.iadd, 1) := by decide +kernel
theorem dL_law_1109 : decode cL_law 1109 = .ok (.iaload, 1) := by decide +kernel
theorem dL_law_1110 : decode cL_law 1110 = .ok (.aload_n 0, 1) := by decide +kernel
theorem dL_law_1111 : decode cL_law 1111 = .ok (.iload_n 3, 1) := by decide +kernel
theorem dL_law_1112 : decode cL_law 1112 = .ok (.iconst 2, 1) := by decide +kernel
theorem dL_law_1113 : decode cL_law 1113 = .ok (.iadd, 1) := by decide +kernel
theorem dL_law_1114 : decode cL_law 1114 = .ok (.iaload, 1) := by decide +kernel
theorem dL_law_1115 : decode cL_law 1115 = .ok (.invokevirtual 134, 3) := by decide +kernel
theorem dL_law_1118 : decode cL_law 1118 = .ok (.if_icmp .eq 152, 3) := by decide +kernel
theorem dL_law_1121 : decode cL_law 1121 = .ok (.iconst 0, 1) := by decide +kernel
theorem dL_law_1122 : decode cL_law 1122 = .ok (.ireturn, 1) := by decide +kernel
theorem dL_law_1123 : decode cL_law 1123 = .ok (.aload_n 1, 1) := by decide +kernel
theorem dL_law_1124 : decode cL_law 1124 = .ok (.aload_n 0, 1) := by decide +kernel
theorem dL_law_1125 : decode cL_law 1125 = .ok (.iload_n 3, 1) := by decide +kernel
theorem dL_law_1126 : decode cL_law 1126 = .ok (.iconst 1, 1) := by decide +kernel
theorem dL_law_1127 : decode cL_law 1127 = .ok (.iadd, 1) := by decide +kernel
theorem dL_law_1128 : decode cL_law 1128 = .ok (.iaload, 1) := by decide +kernel
theorem dL_law_1129 : decode cL_law 1129 = .ok (.aload_n 0, 1) := by decide +kernel
theorem dL_law_1130 : decode cL_law 1130 = .ok (.iload_n 3, 1) := by decide +kernel
theorem dL_law_1131 : decode cL_law 1131 = .ok (.iconst 2, 1) := by decide +kernel
theorem dL_law_1132 : decode cL_law 1132 = .ok (.iadd, 1) := by decide +kernel
theorem dL_law_1133 : decode cL_law 1133 = .ok (.iaload, 1) := by decide +kernel
theorem dL_law_1134 : decode cL_law 1134 = .ok (.invokevirtual 135, 3) := by decide +kernel
theorem dL_law_1137 : decode cL_law 1137 = .ok (.aload_n 2, 1) := by decide +kernel
theorem dL_law_1138 : decode cL_law 1138 = .ok (.aload_n 0, 1) := by decide +kernel
theorem dL_law_1139 : decode cL_law 1139 = .ok (.iload_n 3, 1) := by decide +kernel
theorem dL_law_1140 : decode cL_law 1140 = .ok (.iconst 1, 1) := by decide +kernel
theorem dL_law_1141 : decode cL_law 1141 = .ok (.iadd, 1) := by decide +kernel
theorem dL_law_1142 : decode cL_law 1142 = .ok (.iaload, 1) := by decide +kernel
theorem dL_law_1143 : decode cL_law 1143 = .ok (.aload_n 0, 1) := by decide +kernel
theorem dL_law_1144 : decode cL_law 1144 = .ok (.iload_n 3, 1) := by decide +kernel
theorem dL_law_1145 : decode cL_law 1145 = .ok (.iconst 2, 1) := by decide +kernel
theorem dL_law_1146 : decode cL_law 1146 = .ok (.iadd, 1) := by decide +kernel
theorem dL_law_1147 : decode cL_law 1147 = .ok (.iaload, 1) := by decide +kernel
theorem dL_law_1148 : decode cL_law 1148 = .ok (.invokevirtual 138, 3) := by decide +kernel
theorem dL_law_1151 : decode cL_law 1151 = .ok (.if_icmp .eq 119, 3) := by decide +kernel
theorem dL_law_1154 : decode cL_law 1154 = .ok (.iconst 0, 1) := by decide +kernel
theorem dL_law_1155 : decode cL_law 1155 = .ok (.ireturn, 1) := by decide +kernel
theorem dL_law_1156 : decode cL_law 1156 = .ok (.aload_n 1, 1) := by decide +kernel
theorem dL_law_1157 : decode cL_law 1157 = .ok (.invokevirtual 139, 3) := by decide +kernel
theorem dL_law_1160 : decode cL_law 1160 = .ok (.aload_n 2, 1) := by decide +kernel
theorem dL_law_1161 : decode cL_law 1161 = .ok (.invokevirtual 142, 3) := by decide +kernel
theorem dL_law_1164 : decode cL_law 1164 = .ok (.if_icmp .eq 106, 3) := by decide +kernel
theorem dL_law_1167 : decode cL_law 1167 = .ok (.iconst 0, 1) := by decide +kernel
theorem dL_law_1168 : decode cL_law 1168 = .ok (.ireturn, 1) := by decide +kernel
theorem dL_law_1169 : decode cL_law 1169 = .ok (.aload_n 1, 1) := by decide +kernel
theorem dL_law_1170 : decode cL_law 1170 = .ok (.invokevirtual 143, 3) := by decide +kernel
theorem dL_law_1173 : decode cL_law 1173 = .ok (.aload_n 2, 1) := by decide +kernel
theorem dL_law_1174 : decode cL_law 1174 = .ok (.invokevirtual 147, 3) := by decide +kernel
theorem dL_law_1177 : decode cL_law 1177 = .ok (.lcmp, 1) := by decide +kernel
theorem dL_law_1178 : decode cL_law 1178 = .ok (.ifCond .eq 92, 3) := by decide +kernel
theorem dL_law_1181 : decode cL_law 1181 = .ok (.iconst 0, 1) := by decide +kernel
theorem dL_law_1182 : decode cL_law 1182 = .ok (.ireturn, 1) := by decide +kernel
theorem dL_law_1183 : decode cL_law 1183 = .ok (.aload_n 1, 1) := by decide +kernel
theorem dL_law_1184 : decode cL_law 1184 = .ok (.invokevirtual 148, 3) := by decide +kernel
theorem dL_law_1187 : decode cL_law 1187 = .ok (.aload_n 2, 1) := by decide +kernel
theorem dL_law_1188 : decode cL_law 1188 = .ok (.invokevirtual 151, 3) := by decide +kernel
theorem dL_law_1191 : decode cL_law 1191 = .ok (.lcmp, 1) := by decide +kernel
theorem dL_law_1192 : decode cL_law 1192 = .ok (.ifCond .eq 78, 3) := by decide +kernel
theorem dL_law_1195 : decode cL_law 1195 = .ok (.iconst 0, 1) := by decide +kernel
theorem dL_law_1196 : decode cL_law 1196 = .ok (.ireturn, 1) := by decide +kernel
theorem dL_law_1197 : decode cL_law 1197 = .ok (.aload_n 1, 1) := by decide +kernel
theorem dL_law_1198 : decode cL_law 1198 = .ok (.aload_n 0, 1) := by decide +kernel
theorem dL_law_1199 : decode cL_law 1199 = .ok (.iload_n 3, 1) := by decide +kernel
theorem dL_law_1200 : decode cL_law 1200 = .ok (.iconst 1, 1) := by decide +kernel
theorem dL_law_1201 : decode cL_law 1201 = .ok (.iadd, 1) := by decide +kernel
theorem dL_law_1202 : decode cL_law 1202 = .ok (.iaload, 1) := by decide +kernel
theorem dL_law_1203 : decode cL_law 1203 = .ok (.invokevirtual 152, 3) := by decide +kernel
theorem dL_law_1206 : decode cL_law 1206 = .ok (.aload_n 2, 1) := by decide +kernel
theorem dL_law_1207 : decode cL_law 1207 = .ok (.aload_n 0, 1) := by decide +kernel
theorem dL_law_1208 : decode cL_law 1208 = .ok (.iload_n 3, 1) := by decide +kernel
theorem dL_law_1209 : decode cL_law 1209 = .ok (.iconst 1, 1) := by decide +kernel
theorem dL_law_1210 : decode cL_law 1210 = .ok (.iadd, 1) := by decide +kernel
theorem dL_law_1211 : decode cL_law 1211 = .ok (.iaload, 1) := by decide +kernel
theorem dL_law_1212 : decode cL_law 1212 = .ok (.invokevirtual 155, 3) := by decide +kernel
theorem dL_law_1215 : decode cL_law 1215 = .ok (.if_icmp .eq 55, 3) := by decide +kernel
theorem dL_law_1218 : decode cL_law 1218 = .ok (.iconst 0, 1) := by decide +kernel
theorem dL_law_1219 : decode cL_law 1219 = .ok (.ireturn, 1) := by decide +kernel
theorem dL_law_1220 : decode cL_law 1220 = .ok (.aload_n 1, 1) := by decide +kernel
theorem dL_law_1221 : decode cL_law 1221 = .ok (.invokevirtual 156, 3) := by decide +kernel
theorem dL_law_1224 : decode cL_law 1224 = .ok (.aload_n 2, 1) := by decide +kernel
theorem dL_law_1225 : decode cL_law 1225 = .ok (.invokevirtual 159, 3) := by decide +kernel
theorem dL_law_1228 : decode cL_law 1228 = .ok (.if_icmp .eq 42, 3) := by decide +kernel
theorem dL_law_1231 : decode cL_law 1231 = .ok (.iconst 0, 1) := by decide +kernel
theorem dL_law_1232 : decode cL_law 1232 = .ok (.ireturn, 1) := by decide +kernel
theorem dL_law_1233 : decode cL_law 1233 = .ok (.aload_n 1, 1) := by decide +kernel
theorem dL_law_1234 : decode cL_law 1234 = .ok (.aload_n 0, 1) := by decide +kernel
theorem dL_law_1235 : decode cL_law 1235 = .ok (.iload_n 3, 1) := by decide +kernel
theorem dL_law_1236 : decode cL_law 1236 = .ok (.iconst 1, 1) := by decide +kernel
theorem dL_law_1237 : decode cL_law 1237 = .ok (.iadd, 1) := by decide +kernel
theorem dL_law_1238 : decode cL_law 1238 = .ok (.iaload, 1) := by decide +kernel
theorem dL_law_1239 : decode cL_law 1239 = .ok (.invokevirtual 160, 3) := by decide +kernel
theorem dL_law_1242 : decode cL_law 1242 = .ok (.aload_n 2, 1) := by decide +kernel
theorem dL_law_1243 : decode cL_law 1243 = .ok (.aload_n 0, 1) := by decide +kernel
theorem dL_law_1244 : decode cL_law 1244 = .ok (.iload_n 3, 1) := by decide +kernel
theorem dL_law_1245 : decode cL_law 1245 = .ok (.iconst 1, 1) := by decide +kernel
theorem dL_law_1246 : decode cL_law 1246 = .ok (.iadd, 1) := by decide +kernel
theorem dL_law_1247 : decode cL_law 1247 = .ok (.iaload, 1) := by decide +kernel
theorem dL_law_1248 : decode cL_law 1248 = .ok (.invokevirtual 163, 3) := by decide +kernel
theorem dL_law_1251 : decode cL_law 1251 = .ok (.if_icmp .eq 19, 3) := by decide +kernel
theorem dL_law_1254 : decode cL_law 1254 = .ok (.iconst 0, 1) := by decide +kernel
theorem dL_law_1255 : decode cL_law 1255 = .ok (.ireturn, 1) := by decide +kernel
theorem dL_law_1256 : decode cL_law 1256 = .ok (.aload_n 1, 1) := by decide +kernel
theorem dL_law_1257 : decode cL_law 1257 = .ok (.invokevirtual 164, 3) := by decide +kernel
theorem dL_law_1260 : decode cL_law 1260 = .ok (.aload_n 2, 1) := by decide +kernel
theorem dL_law_1261 : decode cL_law 1261 = .ok (.invokevirtual 167, 3) := by decide +kernel
theorem dL_law_1264 : decode cL_law 1264 = .ok (.lcmp, 1) := by decide +kernel
theorem dL_law_1265 : decode cL_law 1265 = .ok (.ifCond .eq 5, 3) := by decide +kernel
theorem dL_law_1268 : decode cL_law 1268 = .ok (.iconst 0, 1) := by decide +kernel
theorem dL_law_1269 : decode cL_law 1269 = .ok (.ireturn, 1) := by decide +kernel
theorem dL_law_1270 : decode cL_law 1270 = .ok (.iinc 3 6, 3) := by decide +kernel
theorem dL_law_1273 : decode cL_law 1273 = .ok (.goto (-1255), 3) := by decide +kernel
theorem dL_law_1276 : decode cL_law 1276 = .ok (.iconst 1, 1) := by decide +kernel
theorem dL_law_1277 : decode cL_law 1277 = .ok (.ireturn, 1) := by decide +kernel
end
section
/-! MY OWN LAYER. A memory is ints and longs by cell number and place; a layout says what each cell is; a world is the layout's cells at addresses 'ad'. Wx: the walk's goal over it. -/
abbrev mS : Type := (Nat → Nat → Int32) × (Nat → Nat → Int64)
/-- a cell: an object (its kind's number, its fields: 0 an int, 1 a long, k + 2 a reference to cell k), an array of ints or bytes (its kind's number, its length), an array of references to cells base, base + 1 .. -/
abbrev mD : Type := (Nat × List Nat) ⊕ ((Nat × Nat) ⊕ (Nat × Nat × Nat))
abbrev mY : Type := List Nat × (Nat → mD)
def mwI (σ : mS) (k j : Nat) (v : Int32) : mS := (va_up σ.1 k (upd (σ.1 k) j v), σ.2)
def mwL (σ : mS) (k j : Nat) (v : Int64) : mS := (σ.1, va_up σ.2 k (vp_updL (σ.2 k) j v))
def mfv (ad : Nat → Nat) (σ : mS) (k j : Nat) : Nat → Value
  | 0 => .int (σ.1 k j)
  | 1 => .long (σ.2 k j)
  | n + 2 => .ref (ad n)
def mfs (ad : Nat → Nat) (σ : mS) (k : Nat) : Nat → List Nat → List Value
  | _, [] => []
  | j, d :: l => mfv ad σ k j d :: mfs ad σ k (j + 1) l
def mce (ad : Nat → Nat) (cy : Nat → ClassId) (σ : mS) (k : Nat) : mD → va_E
  | .inl o => .inr (o.1, mfs ad σ k 0 o.2)
  | .inr (.inl a) => .inl (cy a.1, a.2, .inl (σ.1 k))
  | .inr (.inr a) => .inl (cy a.1, a.2.1, .inr (.inr (.inr (.inr (fun i => some (ad (a.2.2 + i)))))))
def mwo (Y : mY) (ad : Nat → Nat) (cy : Nat → ClassId) (σ : mS) : va_W := Y.1.map (fun k => (ad k, mce ad cy σ k (Y.2 k)))
def mA (Y : mY) (ad : Nat → Nat) : Nat → Prop := fun q => ∃ k, k ∈ Y.1 ∧ ad k = q
def mJ (Y : mY) (ad : Nat → Nat) : Prop := va_nd Y.1 = true ∧ ∀ i, i ∈ Y.1 → ∀ j, j ∈ Y.1 → ad i = ad j → i = j
theorem mfs_len (ad : Nat → Nat) (σ : mS) (k : Nat) : ∀ (l : List Nat) (j : Nat), (mfs ad σ k j l).length = l.length
  | [], _ => rfl
  | _ :: l, j => by
    show (mfs ad σ k (j + 1) l).length + 1 = l.length + 1
    rw [mfs_len ad σ k l (j + 1)]
theorem mfs_at (ad : Nat → Nat) (σ : mS) (k : Nat) : ∀ (l : List Nat) (j i : Nat), (mfs ad σ k j l)[i]? = (l[i]?).map (mfv ad σ k (j + i))
  | [], _, _ => by simp [mfs]
  | d :: l, j, 0 => by simp [mfs]
  | d :: l, j, i + 1 => by
    show (mfv ad σ k j d :: mfs ad σ k (j + 1) l)[i + 1]? = ((d :: l)[i + 1]?).map _
    rw [List.getElem?_cons_succ, List.getElem?_cons_succ, mfs_at ad σ k l (j + 1) i]
    rw [show j + 1 + i = j + (i + 1) by omega]
theorem mfv_I {ad : Nat → Nat} {σ : mS} {k j : Nat} {v : Int32} {i d : Nat} (h : i ≠ j) : mfv ad (mwI σ k j v) k i d = mfv ad σ k i d := by
  match d with
  | 0 => simp [mfv, mwI, va_up, upd, h]
  | 1 => rfl
  | n + 2 => rfl
theorem mfv_L {ad : Nat → Nat} {σ : mS} {k j : Nat} {v : Int64} {i d : Nat} (h : i ≠ j) : mfv ad (mwL σ k j v) k i d = mfv ad σ k i d := by
  match d with
  | 0 => rfl
  | 1 => simp [mfv, mwL, va_up, vp_updL, h]
  | n + 2 => rfl
theorem mfs_I {ad : Nat → Nat} {σ : mS} {k j : Nat} {v : Int32} {l : List Nat} (h : l[j]? = some 0) : mfs ad (mwI σ k j v) k 0 l = (mfs ad σ k 0 l).set j (.int v) := by
  apply List.ext_getElem?
  intro i
  rw [mfs_at, List.getElem?_set, mfs_len, mfs_at]
  by_cases hi : j = i
  · subst hi
    have hl : j < l.length := (List.getElem?_eq_some_iff.mp h).1
    rw [if_pos rfl, if_pos hl, h]
    simp [mfv, mwI, va_up, upd]
  · rw [if_neg hi, Nat.zero_add]
    cases hd : l[i]? with
    | none => rfl
    | some d => simp only [Option.map_some]; rw [mfv_I (Ne.symm hi)]
theorem mfs_L {ad : Nat → Nat} {σ : mS} {k j : Nat} {v : Int64} {l : List Nat} (h : l[j]? = some 1) : mfs ad (mwL σ k j v) k 0 l = (mfs ad σ k 0 l).set j (.long v) := by
  apply List.ext_getElem?
  intro i
  rw [mfs_at, List.getElem?_set, mfs_len, mfs_at]
  by_cases hi : j = i
  · subst hi
    have hl : j < l.length := (List.getElem?_eq_some_iff.mp h).1
    rw [if_pos rfl, if_pos hl, h]
    simp [mfv, mwL, va_up, vp_updL]
  · rw [if_neg hi, Nat.zero_add]
    cases hd : l[i]? with
    | none => rfl
    | some d => simp only [Option.map_some]; rw [mfv_L (Ne.symm hi)]
theorem mfs_other {ad : Nat → Nat} {σ τ : mS} {k : Nat} (h1 : τ.1 k = σ.1 k) (h2 : τ.2 k = σ.2 k) : ∀ (l : List Nat) (j : Nat), mfs ad τ k j l = mfs ad σ k j l
  | [], _ => rfl
  | d :: l, j => by
    show mfv ad τ k j d :: mfs ad τ k (j + 1) l = mfv ad σ k j d :: mfs ad σ k (j + 1) l
    rw [mfs_other h1 h2 l (j + 1)]
    congr 1
    match d with
    | 0 => simp [mfv, h1]
    | 1 => simp [mfv, h2]
    | n + 2 => rfl
theorem mce_other {ad : Nat → Nat} {cy : Nat → ClassId} {σ τ : mS} {k : Nat} (h1 : τ.1 k = σ.1 k) (h2 : τ.2 k = σ.2 k) (d : mD) : mce ad cy τ k d = mce ad cy σ k d := by
  match d with
  | .inl o => simp only [mce]; rw [mfs_other h1 h2]
  | .inr (.inl a) => simp only [mce]; rw [h1]
  | .inr (.inr a) => rfl
theorem mwo_at {Y : mY} {ad : Nat → Nat} {cy : Nat → ClassId} {σ : mS} {k : Nat} {d : mD} (hk : k ∈ Y.1) (hd : Y.2 k = d) : ∃ i : Nat, Y.1[i]? = some k ∧ (mwo Y ad cy σ)[i]? = some (ad k, mce ad cy σ k d) := by
  obtain ⟨i, hi⟩ := List.getElem?_of_mem hk
  refine ⟨i, hi, ?_⟩
  unfold mwo
  rw [List.getElem?_map, hi, ← hd]
  rfl
theorem mwo_set {Y : mY} {ad : Nat → Nat} {cy : Nat → ClassId} {σ τ : mS} {k i : Nat} {e : va_E} (hn : va_nd Y.1 = true) (hi : Y.1[i]? = some k) (he : mce ad cy τ k (Y.2 k) = e) (ho : ∀ k', k' ≠ k → τ.1 k' = σ.1 k' ∧ τ.2 k' = σ.2 k') : (mwo Y ad cy σ).set i (ad k, e) = mwo Y ad cy τ := by
  apply List.ext_getElem?
  intro j
  unfold mwo
  rw [List.getElem?_set, List.length_map, List.getElem?_map, List.getElem?_map]
  by_cases hj : i = j
  · subst hj
    rw [if_pos rfl, if_pos (List.getElem?_eq_some_iff.mp hi).1, hi]
    simp [he]
  · rw [if_neg hj]
    cases hx : Y.1[j]? with
    | none => rfl
    | some k' =>
      have hne : k' ≠ k := fun h => hj (va_nd_inj Y.1 hn i j k hi (by rw [hx, h]))
      simp only [Option.map_some]
      rw [mce_other (ho k' hne).1 (ho k' hne).2]
theorem mwI_o {σ : mS} {k j : Nat} {v : Int32} : ∀ k', k' ≠ k → (mwI σ k j v).1 k' = σ.1 k' ∧ (mwI σ k j v).2 k' = σ.2 k' := fun k' h => ⟨by simp [mwI, va_up, h], rfl⟩
theorem mwL_o {σ : mS} {k j : Nat} {v : Int64} : ∀ k', k' ≠ k → (mwL σ k j v).1 k' = σ.1 k' ∧ (mwL σ k j v).2 k' = σ.2 k' := fun k' h => ⟨rfl, by simp [mwL, va_up, h]⟩
theorem mwo_D {Y : mY} {ad : Nat → Nat} (hJ : mJ Y ad) (cy : Nat → ClassId) (σ : mS) : va_D (mA Y ad) (mwo Y ad cy σ) := by
  have key : ∀ (i : Nat) (p : Nat × va_E), (mwo Y ad cy σ)[i]? = some p → ∃ k, Y.1[i]? = some k ∧ p.1 = ad k := by
    intro i p h
    unfold mwo at h
    rw [List.getElem?_map] at h
    cases hx : Y.1[i]? with
    | none => rw [hx] at h; cases h
    | some k => rw [hx] at h; cases h; exact ⟨k, rfl, rfl⟩
  refine ⟨fun i j p q hi hj e => ?_, fun i p hi => ?_⟩
  · obtain ⟨a, h1, h2⟩ := key i p hi
    obtain ⟨b, h3, h4⟩ := key j q hj
    have hab : a = b := hJ.2 a (List.mem_of_getElem? h1) b (List.mem_of_getElem? h3) (by rw [← h2, ← h4]; exact e)
    subst hab
    exact va_nd_inj Y.1 hJ.1 i j a h1 h3
  · obtain ⟨a, h1, h2⟩ := key i p hi
    exact ⟨a, List.mem_of_getElem? h1, h2.symm⟩
/-! the words that every method has -/
def mB : List Cond := lw_tbl.filter goodWord
theorem mB_of {w : Cond} (h : w ∈ lw_tbl) (g : goodWord w = true) : w ∈ mB := List.mem_filter.mpr ⟨h, g⟩
theorem mB_good : ∀ w ∈ mB, goodWord w = true := fun _ h => (List.mem_filter.mp h).2
def mNest : Cond → Bool
  | .fieldLinkNest .. => true
  | .methodLinkNest .. => true
  | .castable .. => true
  | _ => false
def mNs : List Cond := lw_tbl.filter mNest
theorem mN_of {w : Cond} (h : w ∈ lw_tbl) (g : mNest w = true) : w ∈ mNs := List.mem_filter.mpr ⟨h, g⟩
/-- pairs of classes that aren't castable -/
def mNc : List (String × String) := [("CalledNumbers$Plain", "CalledNumbers$Whole"), ("CalledNumbers$Plain", "CalledNumbers$Deaf"), ("CalledNumbers$Plain", "CalledNumbers$Hasty"), ("CalledNumbers$Plain", "CalledNumbers$Late"), ("CalledNumbers$Plain", "CalledNumbers$Sly"), ("CalledNumbers$Whole", "CalledNumbers$Deaf"), ("CalledNumbers$Whole", "CalledNumbers$Hasty"), ("CalledNumbers$Whole", "CalledNumbers$Late"), ("CalledNumbers$Whole", "CalledNumbers$Sly"), ("CalledNumbers$Deaf", "CalledNumbers$Whole"), ("CalledNumbers$Deaf", "CalledNumbers$Hasty"), ("CalledNumbers$Deaf", "CalledNumbers$Late"), ("CalledNumbers$Deaf", "CalledNumbers$Sly"), ("CalledNumbers$Hasty", "CalledNumbers$Whole"), ("CalledNumbers$Hasty", "CalledNumbers$Deaf"), ("CalledNumbers$Hasty", "CalledNumbers$Late"), ("CalledNumbers$Hasty", "CalledNumbers$Sly"), ("CalledNumbers$Late", "CalledNumbers$Deaf"), ("CalledNumbers$Late", "CalledNumbers$Hasty"), ("CalledNumbers$Late", "CalledNumbers$Sly"), ("CalledNumbers$Sly", "CalledNumbers$Whole"), ("CalledNumbers$Sly", "CalledNumbers$Hasty"), ("CalledNumbers$Sly", "CalledNumbers$Late")]
/-- the letters' row -/
def mLet : Nat → Int32
  | 0 => 112
  | 1 => 119
  | 2 => 100
  | 3 => 104
  | 4 => 108
  | _ => 115
def mLt (A : Nat → Prop) (U : State) : Prop := ∃ t : Nat, va_Z "CalledNumbers" "LETTERS" "[I" (.ref t) A U U.heap ∧ va_T .int t 6 (fun j => .int (mLet j)) A U U.heap
/-- what is known of the tables beside the words -/
def mT (A : Nat → Prop) (U : State) : Prop := (∀ w ∈ mNs, va_Nw w U) ∧ (∀ q ∈ mNc, va_Nc q.1 q.2 U) ∧ mLt A U
theorem mNs_warm {s U : State} (hW : s.WarmedH U.vm) (h : ∀ w ∈ mNs, va_Nw w s) : ∀ w ∈ mNs, va_Nw w U := by
  intro w hw
  have h1 := h w hw
  have h2 := (List.mem_filter.mp hw).2
  cases w <;> first | exact va_Nw.warmF hW h1 | exact va_Nw.warmM hW h1 | exact va_Nw.warmC hW h1 | (simp [mNest] at h2; done)
theorem mNs_same {s U : State} (e : s.vm = U.vm) (h : ∀ w ∈ mNs, va_Nw w s) : ∀ w ∈ mNs, va_Nw w U := by
  intro w hw
  have h1 := h w hw
  have h2 := (List.mem_filter.mp hw).2
  cases w <;> first | exact va_Nw.same rfl e h1 | (simp [mNest] at h2; done)
theorem mT_warm {A : Nat → Prop} {s U : State} (hW : s.WarmedH U.vm) (hq : ∀ a : Nat, a < s.heap.size → ¬ A a → U.heap[a]? = s.heap[a]?) (h : mT A s) : mT A U := by
  obtain ⟨h1, h2, t, h3, h4⟩ := h
  exact ⟨mNs_warm hW h1, fun q hq => (h2 q hq).moved hW.alike, t, (h3.kept hq).moved hW.alike, (h4.kept hq).moved hW.alike⟩
theorem mT_same {A : Nat → Prop} {s U : State} (e : s.vm = U.vm) (eh : s.heap = U.heap) (h : mT A s) : mT A U := by
  obtain ⟨h1, h2, t, h3, h4⟩ := h
  have ha : s.vm.Alike U.vm := by rw [e]; exact Vm.Alike.refl U.vm
  refine ⟨mNs_same e h1, fun q hq => (h2 q hq).moved ha, t, ?_, ?_⟩
  · rw [eh] at h3; exact h3.moved ha
  · rw [eh] at h4; exact h4.moved ha
end
section
/-! the fixed things of a walk, as one tuple -/
abbrev Kx : Type := Program × Launch × Env × Room × State × MethodId × Array Value × List Frame × Method × Code × Nat × va_G × (Nat → Nat) × (Nat → ClassId) × (State → Prop)
abbrev kp (K : Kx) : Program := K.1
abbrev kl (K : Kx) : Launch := K.2.1
abbrev ke (K : Kx) : Env := K.2.2.1
abbrev kR (K : Kx) : Room := K.2.2.2.1
abbrev ks (K : Kx) : State := K.2.2.2.2.1
abbrev km (K : Kx) : MethodId := K.2.2.2.2.2.1
abbrev ka (K : Kx) : Array Value := K.2.2.2.2.2.2.1
abbrev kb (K : Kx) : List Frame := K.2.2.2.2.2.2.2.1
abbrev kme (K : Kx) : Method := K.2.2.2.2.2.2.2.2.1
abbrev kc (K : Kx) : Code := K.2.2.2.2.2.2.2.2.2.1
abbrev kn (K : Kx) : Nat := K.2.2.2.2.2.2.2.2.2.2.1
abbrev kD (K : Kx) : va_G := K.2.2.2.2.2.2.2.2.2.2.2.1
abbrev kad (K : Kx) : Nat → Nat := K.2.2.2.2.2.2.2.2.2.2.2.2.1
abbrev kcy (K : Kx) : Nat → ClassId := K.2.2.2.2.2.2.2.2.2.2.2.2.2.1
abbrev kQ (K : Kx) : State → Prop := K.2.2.2.2.2.2.2.2.2.2.2.2.2.2
def Wx (Y : mY) (K : Kx) (σ : mS) (pc : Nat) (lv : List (Nat × Value)) (st : List Value) : Prop :=
  ∀ (H : Heap) (locs : List Loc) (ls : Array Slot), va_P (kD K) vwCl (mwo Y (kad K) (kcy K) σ) H → va_S (mA Y (kad K)) (ks K).heap H locs → lv_has ls (kn K) lv → W (kp K) (kl K) (ke K) (kR K) (ks K) (km K) (ka K) (kb K) (kme K) (kc K) H locs 0 0 (kQ K) (F0 (km K) pc ls st)
/-- the kinds of arrays -/
def mty (cy : Nat → ClassId) : List (ClassId × FieldType) := [(cy 0, .int), (cy 1, .byte), (cy 2, .array .int), (cy 3, .array .byte), (cy 4, .object "CalledNumbers$Deeds"), (cy 5, .object "CalledNumbers$Hall"), (cy 6, .object "CalledNumbers$Plain")]
def rmN (n : Nat) : Room := { frames := n, cells := 0, slots := 0, locals := 50 * n }
/-- what a walk knows: the machine, its code, its class, the words, the tables, its room -/
def Cx (Y : mY) (K : Kx) (cc : ByteArray) (own : String) (n : Nat) : Prop :=
  (kp K).tables.exec = Jvm.exec ∧ (kc K).code = cc ∧ (kc K).maxLocals = kn K ∧ (ks K).vm.findClass own = some (km K).cls ∧ (∀ w ∈ mB, w.before (ka K) (ks K) = true) ∧ va_K (kD K) vwCl (mty (kcy K)) (ks K) ∧ mJ Y (kad K) ∧ mT (mA Y (kad K)) (ks K) ∧ kR K = rmN n
def Pg (Y : mY) (D : va_G) (ad : Nat → Nat) (cy : Nat → ClassId) (σ : mS) (U : State) : Prop := va_P D vwCl (mwo Y ad cy σ) U.heap ∧ va_K D vwCl (mty cy) U ∧ mT (mA Y ad) U
def Qg (Y : mY) (D : va_G) (ad : Nat → Nat) (cy : Nat → ClassId) (v : Option Value) (τ : mS) : Array Value → State → Outcome → State → Prop := fun _ st oc t => oc = .returned v ∧ va_P D vwCl (mwo Y ad cy τ) t.heap ∧ va_F (mA Y ad) st t
/-- a method's contract: from memory σ to memory τ, with the answer v -/
def MetG (l : Launch) (Y : mY) (D : va_G) (ad : Nat → Nat) (cy : Nat → ClassId) (y : MethodName) (cc : ByteArray) (maxL : Nat) (ret : Option FieldType) (n : Nat) (av : List Value) (σ : mS) (v : Option Value) (τ : mS) : Prop :=
  Met l y (.code y cc maxL ret :: mB) (rmN n) (va_Pc av (Pg Y D ad cy σ)) (Qg Y D ad cy v τ) 0 0 (mA Y ad)
/-- what a walk's return needs -/
def Rx (Y : mY) (K : Kx) (ret : Option FieldType) (v : Option Value) (τ : mS) : Prop :=
  (kme K).sig.returnType = ret ∧ (kme K).locks = false ∧ kQ K = MQ (kb K) (Qg Y (kD K) (kad K) (kcy K) v τ) (ka K) (ks K) 0 0 (mA Y (kad K))
theorem Pg_blind {Y : mY} {D : va_G} {ad : Nat → Nat} {cy : Nat → ClassId} {σ : mS} {av : List Value} : FrameBlind (va_Pc av (Pg Y D ad cy σ)) := by
  intro a U g mk h
  obtain ⟨e, h1, h2, h3⟩ := h
  exact ⟨e, h1, va_K.moved (u := U) (U := U.calling g mk a) (Vm.Alike.refl U.vm) h2, mT_same (s := U) (U := U.calling g mk a) rfl rfl h3⟩
theorem mB_in {ws : List Cond} {Ts : List Cond} (hT : ∀ w ∈ mB, w ∈ Ts) (h : ∀ w ∈ ws, w ∈ mB) : GoodIn Ts ws := fun w hw => ⟨hT w (h w hw), good_of_word (mB_good w (h w hw))⟩
/-- from the walk to the contract -/
theorem MetG.of {l : Launch} {Y : mY} {D : va_G} {ad : Nat → Nat} {cy : Nat → ClassId} {y : MethodName} {cc : ByteArray} {maxL : Nat} {ret : Option FieldType} {n : Nat} {av : List Value} {σ : mS} {v : Option Value} {τ : mS} (hJ : mJ Y ad) (hy : plainName y.cls = true) (lv0 : List (Nat × Value)) (hlv : lv_args 0 av = lv0) (hle : (lg_sl av).length ≤ maxL)
    (body : ∀ K : Kx, kl K = l → kD K = D → kad K = ad → kcy K = cy → kn K = maxL → Cx Y K cc y.cls n → Rx Y K ret v τ → Wx Y K σ 0 lv0 []) : MetG l Y D ad cy y cc maxL ret n av σ v τ := by
  refine Met.ofW (cc := cc) (maxL := maxL) (ret := ret) hy rfl ?_
  intro p e s m args below meth c s₁ B hml hv
  obtain ⟨rfl, hP, hK, hT⟩ := hv
  have hts := atoms_spec (ws := .code y cc maxL ret :: mB) B.pre
  have hown : s.vm.findClass y.cls = some m.cls := findClass_of_methodNamed B.named
  have hl := lv_entry av (n := maxL) hle
  rw [lg_entry_eq]
  generalize (lg_sl av ++ List.replicate (maxL - (lg_sl av).length) Slot.unset).toArray = ls at hl ⊢
  rw [hlv] at hl
  exact body (p, l, e, rmN n, s, m, av.toArray, below, meth, c, maxL, D, ad, cy, MQ below (Qg Y D ad cy v τ) av.toArray s 0 0 (mA Y ad)) rfl rfl rfl rfl rfl
    ⟨B.exec, B.bytes, hml, hown, fun w h => hts w (List.mem_cons_of_mem _ h), hK, hJ, hT, rfl⟩ ⟨B.returns, B.notSynchronized, rfl⟩ s.heap [] ls hP va_S.rf hl
section XR
variable {Y : mY} {K : Kx} {cc : ByteArray} {own : String} {n : Nat} {σ τ : mS} {pc : Nat} {lv lv' : List (Nat × Value)} {st rest : List Value}
/-- fewer locals, in another order -/
theorem x_lv (ps : List Nat) (h : lv_pick lv ps = lv') (kk : Wx Y K σ pc lv' st) : Wx Y K σ pc lv st := fun H locs ls hP hS hl => kk H locs ls hP hS (lv_sub hl ps h)
theorem x_mem (h : τ = σ) (kk : Wx Y K τ pc lv st) : Wx Y K σ pc lv st := h ▸ kk
theorem x_iconst (C : Cx Y K cc own n) {i : Int} {v : Int32} (d : decode cc pc = .ok (.iconst i, 1)) (hv : Int32.ofInt i = v) (kk : Wx Y K σ (pc + 1) lv (.int v :: st)) : Wx Y K σ pc lv st := fun H locs ls hP hS hl => lv_iconst C.1 C.2.1 d hv (kk H locs ls hP hS hl)
theorem x_bipush (C : Cx Y K cc own n) {i : Int} {v : Int32} (d : decode cc pc = .ok (.bipush i, 2)) (hv : (Int8.ofInt i).toInt32 = v) (kk : Wx Y K σ (pc + 2) lv (.int v :: st)) : Wx Y K σ pc lv st := fun H locs ls hP hS hl => lv_bipush C.1 C.2.1 d hv (kk H locs ls hP hS hl)
theorem x_sipush (C : Cx Y K cc own n) {i : Int} {v : Int32} (d : decode cc pc = .ok (.sipush i, 3)) (hv : (Int16.ofInt i).toInt32 = v) (kk : Wx Y K σ (pc + 3) lv (.int v :: st)) : Wx Y K σ pc lv st := fun H locs ls hP hS hl => lv_sipush C.1 C.2.1 d hv (kk H locs ls hP hS hl)
theorem x_lconst (C : Cx Y K cc own n) {i : Fin 2} {v : Int64} (d : decode cc pc = .ok (.lconst i, 1)) (hv : Int64.ofNat (i : Nat) = v) (kk : Wx Y K σ (pc + 1) lv (.long v :: st)) : Wx Y K σ pc lv st := fun H locs ls hP hS hl => lv_lconst C.1 C.2.1 d hv (kk H locs ls hP hS hl)
theorem x_ldc (C : Cx Y K cc own n) {i : Nat} {v : Int32} (w : Cond.constant own i v ∈ mB) (d : decode cc pc = .ok (.ldc i, 2)) (kk : Wx Y K σ (pc + 2) lv (.int v :: st)) : Wx Y K σ pc lv st := fun H locs ls hP hS hl => lv_ldc C.1 C.2.1 C.2.2.2.1 (C.2.2.2.2.1 _ w) d (kk H locs ls hP hS hl)
theorem x_ldcw (C : Cx Y K cc own n) {i : Nat} {v : Int32} (w : Cond.constant own i v ∈ mB) (d : decode cc pc = .ok (.ldc_w i, 3)) (kk : Wx Y K σ (pc + 3) lv (.int v :: st)) : Wx Y K σ pc lv st := fun H locs ls hP hS hl => lv_ldcw C.1 C.2.1 C.2.2.2.1 (C.2.2.2.2.1 _ w) d (kk H locs ls hP hS hl)
theorem x_ldc2 (C : Cx Y K cc own n) {i : Nat} {v : Int64} (w : Cond.constantLong own i v ∈ mB) (d : decode cc pc = .ok (.ldc2_w i, 3)) (kk : Wx Y K σ (pc + 3) lv (.long v :: st)) : Wx Y K σ pc lv st := fun H locs ls hP hS hl => lv_ldc2 C.1 C.2.1 C.2.2.2.1 (C.2.2.2.2.1 _ w) d (kk H locs ls hP hS hl)
theorem x_iload (C : Cx Y K cc own n) {i : Nat} {x : Int32} (j : Nat) (d : decode cc pc = .ok (.iload i, 2)) (h : lv[j]? = some (i, .int x)) (kk : Wx Y K σ (pc + 2) lv (.int x :: st)) : Wx Y K σ pc lv st := fun H locs ls hP hS hl => lv_iload C.1 C.2.1 d (lv_at hl j h) (kk H locs ls hP hS hl)
theorem x_lload (C : Cx Y K cc own n) {i : Nat} {x : Int64} (j : Nat) (d : decode cc pc = .ok (.lload i, 2)) (h : lv[j]? = some (i, .long x)) (kk : Wx Y K σ (pc + 2) lv (.long x :: st)) : Wx Y K σ pc lv st := fun H locs ls hP hS hl => lv_lload C.1 C.2.1 d (lv_at hl j h) (kk H locs ls hP hS hl)
theorem x_aload (C : Cx Y K cc own n) {i : Nat} {x : Nat} (j : Nat) (d : decode cc pc = .ok (.aload i, 2)) (h : lv[j]? = some (i, .ref x)) (kk : Wx Y K σ (pc + 2) lv (.ref x :: st)) : Wx Y K σ pc lv st := fun H locs ls hP hS hl => lv_aload C.1 C.2.1 d (lv_at hl j h) (kk H locs ls hP hS hl)
theorem x_iload_n (C : Cx Y K cc own n) {i : Fin 4} {x : Int32} (j : Nat) (d : decode cc pc = .ok (.iload_n i, 1)) (h : lv[j]? = some ((i : Nat), .int x)) (kk : Wx Y K σ (pc + 1) lv (.int x :: st)) : Wx Y K σ pc lv st := fun H locs ls hP hS hl => lv_iload_n C.1 C.2.1 d rfl (lv_at hl j h) (kk H locs ls hP hS hl)
theorem x_lload_n (C : Cx Y K cc own n) {i : Fin 4} {x : Int64} (j : Nat) (d : decode cc pc = .ok (.lload_n i, 1)) (h : lv[j]? = some ((i : Nat), .long x)) (kk : Wx Y K σ (pc + 1) lv (.long x :: st)) : Wx Y K σ pc lv st := fun H locs ls hP hS hl => lv_lload_n C.1 C.2.1 d rfl (lv_at hl j h) (kk H locs ls hP hS hl)
theorem x_aload_n (C : Cx Y K cc own n) {i : Fin 4} {x : Nat} (j : Nat) (d : decode cc pc = .ok (.aload_n i, 1)) (h : lv[j]? = some ((i : Nat), .ref x)) (kk : Wx Y K σ (pc + 1) lv (.ref x :: st)) : Wx Y K σ pc lv st := fun H locs ls hP hS hl => lv_aload_n C.1 C.2.1 d rfl (lv_at hl j h) (kk H locs ls hP hS hl)
theorem x_istore (C : Cx Y K cc own n) {i : Nat} {x : Int32} (d : decode cc pc = .ok (.istore i, 2)) (hn : i < kn K) (h : (i, Value.int x) :: lv.filter (fun q => !(q.1 == i) && !(q.1 + 1 == i && q.2.category == 2)) = lv') (kk : Wx Y K σ (pc + 2) lv' st) : Wx Y K σ pc lv (.int x :: st) := fun H locs ls hP hS hl => lv_istore C.1 C.2.1 d hl hn h (fun ls hl => kk H locs ls hP hS hl)
theorem x_istore_n (C : Cx Y K cc own n) {i : Fin 4} {x : Int32} (d : decode cc pc = .ok (.istore_n i, 1)) (hn : (i : Nat) < kn K) (h : ((i : Nat), Value.int x) :: lv.filter (fun q => !(q.1 == (i : Nat)) && !(q.1 + 1 == (i : Nat) && q.2.category == 2)) = lv') (kk : Wx Y K σ (pc + 1) lv' st) : Wx Y K σ pc lv (.int x :: st) := fun H locs ls hP hS hl => lv_istore_n C.1 C.2.1 d rfl hl hn h (fun ls hl => kk H locs ls hP hS hl)
theorem x_astore (C : Cx Y K cc own n) {i : Nat} {x : Nat} (d : decode cc pc = .ok (.astore i, 2)) (hn : i < kn K) (h : (i, Value.ref x) :: lv.filter (fun q => !(q.1 == i) && !(q.1 + 1 == i && q.2.category == 2)) = lv') (kk : Wx Y K σ (pc + 2) lv' st) : Wx Y K σ pc lv (.ref x :: st) := fun H locs ls hP hS hl => lv_astore C.1 C.2.1 d hl hn h (fun ls hl => kk H locs ls hP hS hl)
theorem x_astore_n (C : Cx Y K cc own n) {i : Fin 4} {x : Nat} (d : decode cc pc = .ok (.astore_n i, 1)) (hn : (i : Nat) < kn K) (h : ((i : Nat), Value.ref x) :: lv.filter (fun q => !(q.1 == (i : Nat)) && !(q.1 + 1 == (i : Nat) && q.2.category == 2)) = lv') (kk : Wx Y K σ (pc + 1) lv' st) : Wx Y K σ pc lv (.ref x :: st) := fun H locs ls hP hS hl => lv_astore_n C.1 C.2.1 d rfl hl hn h (fun ls hl => kk H locs ls hP hS hl)
theorem x_lstore (C : Cx Y K cc own n) {i : Nat} {x : Int64} (d : decode cc pc = .ok (.lstore i, 2)) (hn : i + 1 < kn K) (h : (i, Value.long x) :: lv.filter (fun q => !(q.1 == i) && (!(q.1 == i + 1) && !(q.1 + 1 == i && q.2.category == 2))) = lv') (kk : Wx Y K σ (pc + 2) lv' st) : Wx Y K σ pc lv (.long x :: st) := fun H locs ls hP hS hl => lv_lstore C.1 C.2.1 d hl hn h (fun ls hl => kk H locs ls hP hS hl)
theorem x_lstore_n (C : Cx Y K cc own n) {i : Fin 4} {x : Int64} (d : decode cc pc = .ok (.lstore_n i, 1)) (hn : (i : Nat) + 1 < kn K) (h : ((i : Nat), Value.long x) :: lv.filter (fun q => !(q.1 == (i : Nat)) && (!(q.1 == (i : Nat) + 1) && !(q.1 + 1 == (i : Nat) && q.2.category == 2))) = lv') (kk : Wx Y K σ (pc + 1) lv' st) : Wx Y K σ pc lv (.long x :: st) := fun H locs ls hP hS hl => lv_lstore_n C.1 C.2.1 d rfl hl hn h (fun ls hl => kk H locs ls hP hS hl)
theorem x_iinc (C : Cx Y K cc own n) {i : Nat} {z : Int} {x v : Int32} (j : Nat) (d : decode cc pc = .ok (.iinc i z, 3)) (hk : lv[j]? = some (i, .int x)) (hv : x + Int32.ofInt z = v) (hn : i < kn K) (h : (i, Value.int v) :: lv.filter (fun q => !(q.1 == i) && !(q.1 + 1 == i && q.2.category == 2)) = lv') (kk : Wx Y K σ (pc + 3) lv' st) : Wx Y K σ pc lv st := fun H locs ls hP hS hl => lv_iinc C.1 C.2.1 d hl hk hv hn h (fun ls hl => kk H locs ls hP hS hl)
theorem x_dup (C : Cx Y K cc own n) {a : Value} (d : decode cc pc = .ok (.dup, 1)) (h : a.category = 1) (kk : Wx Y K σ (pc + 1) lv (a :: a :: st)) : Wx Y K σ pc lv (a :: st) := fun H locs ls hP hS hl => lv_dup C.1 C.2.1 d h (kk H locs ls hP hS hl)
theorem x_pop (C : Cx Y K cc own n) {a : Value} (d : decode cc pc = .ok (.pop, 1)) (h : a.category = 1) (kk : Wx Y K σ (pc + 1) lv st) : Wx Y K σ pc lv (a :: st) := fun H locs ls hP hS hl => lv_pop C.1 C.2.1 d h (kk H locs ls hP hS hl)
theorem x_iadd (C : Cx Y K cc own n) {x y : Int32} (d : decode cc pc = .ok (.iadd, 1)) (kk : Wx Y K σ (pc + 1) lv (.int (x + y) :: st)) : Wx Y K σ pc lv (.int y :: .int x :: st) := fun H locs ls hP hS hl => lv_iadd C.1 C.2.1 d (kk H locs ls hP hS hl)
theorem x_isub (C : Cx Y K cc own n) {x y : Int32} (d : decode cc pc = .ok (.isub, 1)) (kk : Wx Y K σ (pc + 1) lv (.int (x - y) :: st)) : Wx Y K σ pc lv (.int y :: .int x :: st) := fun H locs ls hP hS hl => lv_isub C.1 C.2.1 d (kk H locs ls hP hS hl)
theorem x_imul (C : Cx Y K cc own n) {x y : Int32} (d : decode cc pc = .ok (.imul, 1)) (kk : Wx Y K σ (pc + 1) lv (.int (x * y) :: st)) : Wx Y K σ pc lv (.int y :: .int x :: st) := fun H locs ls hP hS hl => lv_imul C.1 C.2.1 d (kk H locs ls hP hS hl)
theorem x_iand (C : Cx Y K cc own n) {x y : Int32} (d : decode cc pc = .ok (.iand, 1)) (kk : Wx Y K σ (pc + 1) lv (.int (x &&& y) :: st)) : Wx Y K σ pc lv (.int y :: .int x :: st) := fun H locs ls hP hS hl => lv_iand C.1 C.2.1 d (kk H locs ls hP hS hl)
theorem x_ior (C : Cx Y K cc own n) {x y : Int32} (d : decode cc pc = .ok (.ior, 1)) (kk : Wx Y K σ (pc + 1) lv (.int (x ||| y) :: st)) : Wx Y K σ pc lv (.int y :: .int x :: st) := fun H locs ls hP hS hl => lv_ior C.1 C.2.1 d (kk H locs ls hP hS hl)
theorem x_ixor (C : Cx Y K cc own n) {x y : Int32} (d : decode cc pc = .ok (.ixor, 1)) (kk : Wx Y K σ (pc + 1) lv (.int (x ^^^ y) :: st)) : Wx Y K σ pc lv (.int y :: .int x :: st) := fun H locs ls hP hS hl => lv_ixor C.1 C.2.1 d (kk H locs ls hP hS hl)
theorem x_idiv (C : Cx Y K cc own n) {x y : Int32} (d : decode cc pc = .ok (.idiv, 1)) (h : ¬ y = 0) (kk : Wx Y K σ (pc + 1) lv (.int (x / y) :: st)) : Wx Y K σ pc lv (.int y :: .int x :: st) := fun H locs ls hP hS hl => lv_idiv C.1 C.2.1 d h (kk H locs ls hP hS hl)
theorem x_irem (C : Cx Y K cc own n) {x y : Int32} (d : decode cc pc = .ok (.irem, 1)) (h : ¬ y = 0) (kk : Wx Y K σ (pc + 1) lv (.int (x - x / y * y) :: st)) : Wx Y K σ pc lv (.int y :: .int x :: st) := fun H locs ls hP hS hl => lv_irem C.1 C.2.1 d h (kk H locs ls hP hS hl)
theorem x_ishl (C : Cx Y K cc own n) {x y : Int32} (d : decode cc pc = .ok (.ishl, 1)) (kk : Wx Y K σ (pc + 1) lv (.int (x <<< (y &&& 31)) :: st)) : Wx Y K σ pc lv (.int y :: .int x :: st) := fun H locs ls hP hS hl => lv_ishl C.1 C.2.1 d (kk H locs ls hP hS hl)
theorem x_ishr (C : Cx Y K cc own n) {x y : Int32} (d : decode cc pc = .ok (.ishr, 1)) (kk : Wx Y K σ (pc + 1) lv (.int (x >>> (y &&& 31)) :: st)) : Wx Y K σ pc lv (.int y :: .int x :: st) := fun H locs ls hP hS hl => lv_ishr C.1 C.2.1 d (kk H locs ls hP hS hl)
theorem x_iushr (C : Cx Y K cc own n) {x y v : Int32} (d : decode cc pc = .ok (.iushr, 1)) (hv : (x.toUInt32 >>> (y.toUInt32 &&& Int32.toUInt32 31)).toInt32 = v) (kk : Wx Y K σ (pc + 1) lv (.int v :: st)) : Wx Y K σ pc lv (.int y :: .int x :: st) := fun H locs ls hP hS hl => lv_iushr C.1 C.2.1 d hv (kk H locs ls hP hS hl)
theorem x_ladd (C : Cx Y K cc own n) {x y : Int64} (d : decode cc pc = .ok (.ladd, 1)) (kk : Wx Y K σ (pc + 1) lv (.long (x + y) :: st)) : Wx Y K σ pc lv (.long y :: .long x :: st) := fun H locs ls hP hS hl => lv_ladd C.1 C.2.1 d (kk H locs ls hP hS hl)
theorem x_lmul (C : Cx Y K cc own n) {x y : Int64} (d : decode cc pc = .ok (.lmul, 1)) (kk : Wx Y K σ (pc + 1) lv (.long (x * y) :: st)) : Wx Y K σ pc lv (.long y :: .long x :: st) := fun H locs ls hP hS hl => lv_lmul C.1 C.2.1 d (kk H locs ls hP hS hl)
theorem x_ldiv (C : Cx Y K cc own n) {x y : Int64} (d : decode cc pc = .ok (.ldiv, 1)) (h : ¬ y = 0) (kk : Wx Y K σ (pc + 1) lv (.long (x / y) :: st)) : Wx Y K σ pc lv (.long y :: .long x :: st) := fun H locs ls hP hS hl => lv_ldiv C.1 C.2.1 d h (kk H locs ls hP hS hl)
theorem x_lrem (C : Cx Y K cc own n) {x y : Int64} (d : decode cc pc = .ok (.lrem, 1)) (h : ¬ y = 0) (kk : Wx Y K σ (pc + 1) lv (.long (x - x / y * y) :: st)) : Wx Y K σ pc lv (.long y :: .long x :: st) := fun H locs ls hP hS hl => lv_lrem C.1 C.2.1 d h (kk H locs ls hP hS hl)
theorem x_i2l (C : Cx Y K cc own n) {x : Int32} (d : decode cc pc = .ok (.i2l, 1)) (kk : Wx Y K σ (pc + 1) lv (.long x.toInt64 :: st)) : Wx Y K σ pc lv (.int x :: st) := fun H locs ls hP hS hl => lv_i2l C.1 C.2.1 d rfl (kk H locs ls hP hS hl)
theorem x_l2i (C : Cx Y K cc own n) {x : Int64} (d : decode cc pc = .ok (.l2i, 1)) (kk : Wx Y K σ (pc + 1) lv (.int x.toInt32 :: st)) : Wx Y K σ pc lv (.long x :: st) := fun H locs ls hP hS hl => lv_l2i C.1 C.2.1 d rfl (kk H locs ls hP hS hl)
theorem x_i2b (C : Cx Y K cc own n) {x : Int32} (d : decode cc pc = .ok (.i2b, 1)) (kk : Wx Y K σ (pc + 1) lv (.int x.toInt8.toInt32 :: st)) : Wx Y K σ pc lv (.int x :: st) := fun H locs ls hP hS hl => lv_i2b C.1 C.2.1 d rfl (kk H locs ls hP hS hl)
theorem x_goto (C : Cx Y K cc own n) {off : Int} (tgt : Nat) (d : decode cc pc = .ok (.goto off, 3)) (ht : (pc : Int) + off = (tgt : Int)) (kk : Wx Y K σ tgt lv st) : Wx Y K σ pc lv st := fun H locs ls hP hS hl => lv_goto C.1 C.2.1 d ht (kk H locs ls hP hS hl)
theorem x_ifeq (C : Cx Y K cc own n) {x : Int32} {off : Int} (tgt : Nat) (d : decode cc pc = .ok (.ifCond .eq off, 3)) (ht : (pc : Int) + off = (tgt : Int)) (kt : x = 0 → Wx Y K σ tgt lv st) (kf : ¬ x = 0 → Wx Y K σ (pc + 3) lv st) : Wx Y K σ pc lv (.int x :: st) := fun H locs ls hP hS hl => lv_if_eq C.1 C.2.1 d ht (fun h => kt h H locs ls hP hS hl) (fun h => kf h H locs ls hP hS hl)
theorem x_ifne (C : Cx Y K cc own n) {x : Int32} {off : Int} (tgt : Nat) (d : decode cc pc = .ok (.ifCond .ne off, 3)) (ht : (pc : Int) + off = (tgt : Int)) (kt : ¬ x = 0 → Wx Y K σ tgt lv st) (kf : x = 0 → Wx Y K σ (pc + 3) lv st) : Wx Y K σ pc lv (.int x :: st) := fun H locs ls hP hS hl => lv_if_ne C.1 C.2.1 d ht (fun h => kt h H locs ls hP hS hl) (fun h => kf h H locs ls hP hS hl)
theorem x_iflt (C : Cx Y K cc own n) {x : Int32} {off : Int} (tgt : Nat) (d : decode cc pc = .ok (.ifCond .lt off, 3)) (ht : (pc : Int) + off = (tgt : Int)) (kt : x < 0 → Wx Y K σ tgt lv st) (kf : ¬ x < 0 → Wx Y K σ (pc + 3) lv st) : Wx Y K σ pc lv (.int x :: st) := fun H locs ls hP hS hl => lv_if_lt C.1 C.2.1 d ht (fun h => kt h H locs ls hP hS hl) (fun h => kf h H locs ls hP hS hl)
theorem x_ifge (C : Cx Y K cc own n) {x : Int32} {off : Int} (tgt : Nat) (d : decode cc pc = .ok (.ifCond .ge off, 3)) (ht : (pc : Int) + off = (tgt : Int)) (kt : 0 ≤ x → Wx Y K σ tgt lv st) (kf : ¬ 0 ≤ x → Wx Y K σ (pc + 3) lv st) : Wx Y K σ pc lv (.int x :: st) := fun H locs ls hP hS hl => lv_if_ge C.1 C.2.1 d ht (fun h => kt h H locs ls hP hS hl) (fun h => kf h H locs ls hP hS hl)
theorem x_ifgt (C : Cx Y K cc own n) {x : Int32} {off : Int} (tgt : Nat) (d : decode cc pc = .ok (.ifCond .gt off, 3)) (ht : (pc : Int) + off = (tgt : Int)) (kt : 0 < x → Wx Y K σ tgt lv st) (kf : ¬ 0 < x → Wx Y K σ (pc + 3) lv st) : Wx Y K σ pc lv (.int x :: st) := fun H locs ls hP hS hl => lv_if_gt C.1 C.2.1 d ht (fun h => kt h H locs ls hP hS hl) (fun h => kf h H locs ls hP hS hl)
theorem x_ifle (C : Cx Y K cc own n) {x : Int32} {off : Int} (tgt : Nat) (d : decode cc pc = .ok (.ifCond .le off, 3)) (ht : (pc : Int) + off = (tgt : Int)) (kt : x ≤ 0 → Wx Y K σ tgt lv st) (kf : ¬ x ≤ 0 → Wx Y K σ (pc + 3) lv st) : Wx Y K σ pc lv (.int x :: st) := fun H locs ls hP hS hl => lv_if_le C.1 C.2.1 d ht (fun h => kt h H locs ls hP hS hl) (fun h => kf h H locs ls hP hS hl)
theorem x_icmpeq (C : Cx Y K cc own n) {x y : Int32} {off : Int} (tgt : Nat) (d : decode cc pc = .ok (.if_icmp .eq off, 3)) (ht : (pc : Int) + off = (tgt : Int)) (kt : x = y → Wx Y K σ tgt lv st) (kf : ¬ x = y → Wx Y K σ (pc + 3) lv st) : Wx Y K σ pc lv (.int y :: .int x :: st) := fun H locs ls hP hS hl => lv_icmp_eq C.1 C.2.1 d ht (fun h => kt h H locs ls hP hS hl) (fun h => kf h H locs ls hP hS hl)
theorem x_icmpne (C : Cx Y K cc own n) {x y : Int32} {off : Int} (tgt : Nat) (d : decode cc pc = .ok (.if_icmp .ne off, 3)) (ht : (pc : Int) + off = (tgt : Int)) (kt : ¬ x = y → Wx Y K σ tgt lv st) (kf : x = y → Wx Y K σ (pc + 3) lv st) : Wx Y K σ pc lv (.int y :: .int x :: st) := fun H locs ls hP hS hl => lv_icmp_ne C.1 C.2.1 d ht (fun h => kt h H locs ls hP hS hl) (fun h => kf h H locs ls hP hS hl)
theorem x_icmplt (C : Cx Y K cc own n) {x y : Int32} {off : Int} (tgt : Nat) (d : decode cc pc = .ok (.if_icmp .lt off, 3)) (ht : (pc : Int) + off = (tgt : Int)) (kt : x < y → Wx Y K σ tgt lv st) (kf : ¬ x < y → Wx Y K σ (pc + 3) lv st) : Wx Y K σ pc lv (.int y :: .int x :: st) := fun H locs ls hP hS hl => lv_icmp_lt C.1 C.2.1 d ht (fun h => kt h H locs ls hP hS hl) (fun h => kf h H locs ls hP hS hl)
theorem x_icmpge (C : Cx Y K cc own n) {x y : Int32} {off : Int} (tgt : Nat) (d : decode cc pc = .ok (.if_icmp .ge off, 3)) (ht : (pc : Int) + off = (tgt : Int)) (kt : y ≤ x → Wx Y K σ tgt lv st) (kf : ¬ y ≤ x → Wx Y K σ (pc + 3) lv st) : Wx Y K σ pc lv (.int y :: .int x :: st) := fun H locs ls hP hS hl => lv_icmp_ge C.1 C.2.1 d ht (fun h => kt h H locs ls hP hS hl) (fun h => kf h H locs ls hP hS hl)
theorem x_icmpgt (C : Cx Y K cc own n) {x y : Int32} {off : Int} (tgt : Nat) (d : decode cc pc = .ok (.if_icmp .gt off, 3)) (ht : (pc : Int) + off = (tgt : Int)) (kt : y < x → Wx Y K σ tgt lv st) (kf : ¬ y < x → Wx Y K σ (pc + 3) lv st) : Wx Y K σ pc lv (.int y :: .int x :: st) := fun H locs ls hP hS hl => lv_icmp_gt C.1 C.2.1 d ht (fun h => kt h H locs ls hP hS hl) (fun h => kf h H locs ls hP hS hl)
theorem x_icmple (C : Cx Y K cc own n) {x y : Int32} {off : Int} (tgt : Nat) (d : decode cc pc = .ok (.if_icmp .le off, 3)) (ht : (pc : Int) + off = (tgt : Int)) (kt : x ≤ y → Wx Y K σ tgt lv st) (kf : ¬ x ≤ y → Wx Y K σ (pc + 3) lv st) : Wx Y K σ pc lv (.int y :: .int x :: st) := fun H locs ls hP hS hl => lv_icmp_le C.1 C.2.1 d ht (fun h => kt h H locs ls hP hS hl) (fun h => kf h H locs ls hP hS hl)
theorem x_tableOut (C : Cx Y K cc own n) {dflt lo hi : Int} {offs : Array Int} {len : Nat} {x : Int32} (tgt : Nat) (d : decode cc pc = .ok (.tableswitch dflt lo hi offs, len)) (h : x.toInt < lo ∨ hi < x.toInt) (ht : (pc : Int) + dflt = (tgt : Int)) (kk : Wx Y K σ tgt lv st) : Wx Y K σ pc lv (.int x :: st) := fun H locs ls hP hS hl => lv_tableOut C.1 C.2.1 d h ht (kk H locs ls hP hS hl)
theorem x_tableIn (C : Cx Y K cc own n) {dflt lo hi : Int} {offs : Array Int} {len : Nat} {x : Int32} {off : Int} (tgt : Nat) (d : decode cc pc = .ok (.tableswitch dflt lo hi offs, len)) (h1 : ¬ x.toInt < lo) (h2 : ¬ hi < x.toInt) (ho : offs[(x.toInt - lo).toNat]? = some off) (ht : (pc : Int) + off = (tgt : Int)) (kk : Wx Y K σ tgt lv st) : Wx Y K σ pc lv (.int x :: st) := fun H locs ls hP hS hl => lv_tableIn C.1 C.2.1 d h1 h2 ho ht (kk H locs ls hP hS hl)
/-! fields -/
theorem x_getV (C : Cx Y K cc own n) {k ci j i : Nat} {fd : List Nat} {q : vw_C} {v : Value} (hk : k ∈ Y.1) (hd : Y.2 k = .inl (ci, fd)) (hc : vwCl[ci]? = some q) (hin : ∀ w ∈ u_ws q.1 q.2.1 q.2.2, w ∈ mB) (hj : j < q.2.2) (hl : Cond.fieldLink own i (q.2.1 j).1 (q.2.1 j).2.1 (q.2.1 j).2.2.1 ∈ mB) (hf : (fd[j]?).map (mfv (kad K) σ k j) = some v) (d : decode cc pc = .ok (.getfield i, 3)) (kk : Wx Y K σ (pc + 3) lv (v :: st)) : Wx Y K σ pc lv (.ref (kad K k) :: st) := by
  intro H locs ls hP hS hl2
  obtain ⟨p0, -, he⟩ := mwo_at (ad := kad K) (cy := kcy K) (σ := σ) hk hd
  exact va_get C.1 C.2.1 C.2.2.2.2.1 hin C.2.2.2.1 C.2.2.2.2.2.1 hP p0 he hc j hj (C.2.2.2.2.1 _ hl) (fun _ h => h) (by rw [mfs_at, Nat.zero_add]; exact hf) d (kk H locs ls hP hS hl2)
theorem x_getVN (C : Cx Y K cc own n) {host : String} {k ci j i : Nat} {fd : List Nat} {q : vw_C} {v : Value} (hk : k ∈ Y.1) (hd : Y.2 k = .inl (ci, fd)) (hc : vwCl[ci]? = some q) (hin : ∀ w ∈ u_ws q.1 q.2.1 q.2.2, w ∈ mB) (hj : j < q.2.2) (hl : Cond.fieldLinkNest own i (q.2.1 j).1 (q.2.1 j).2.1 (q.2.1 j).2.2.1 host ∈ mNs) (hf : (fd[j]?).map (mfv (kad K) σ k j) = some v) (d : decode cc pc = .ok (.getfield i, 3)) (kk : Wx Y K σ (pc + 3) lv (v :: st)) : Wx Y K σ pc lv (.ref (kad K k) :: st) := by
  intro H locs ls hP hS hl2
  obtain ⟨p0, -, he⟩ := mwo_at (ad := kad K) (cy := kcy K) (σ := σ) hk hd
  exact va_getN C.1 C.2.1 C.2.2.2.2.1 hin C.2.2.2.1 C.2.2.2.2.2.1 hP p0 he hc j hj (va_Nw.use rfl (C.2.2.2.2.2.2.2.1.1 _ hl)) (fun _ h => h) (by rw [mfs_at, Nat.zero_add]; exact hf) d (kk H locs ls hP hS hl2)
end XR
end
section
/-- n ints of cell k from place sp on come to cell k2 from place dp on -/
def mcp (σ : mS) (k sp k2 dp n : Nat) : mS := (va_up σ.1 k2 (va_cpy (σ.1 k) (σ.1 k2) sp dp n), σ.2)
section XR2
variable {Y : mY} {K : Kx} {cc : ByteArray} {own : String} {n : Nat} {σ τ : mS} {pc : Nat} {lv lv' : List (Nat × Value)} {st rest : List Value}
theorem x_getI (C : Cx Y K cc own n) {k ci j i : Nat} {fd : List Nat} {q : vw_C} (hk : k ∈ Y.1) (hd : Y.2 k = .inl (ci, fd)) (hc : vwCl[ci]? = some q) (hin : ∀ w ∈ u_ws q.1 q.2.1 q.2.2, w ∈ mB) (hj : j < q.2.2) (hl : Cond.fieldLink own i (q.2.1 j).1 (q.2.1 j).2.1 (q.2.1 j).2.2.1 ∈ mB) (hf : fd[j]? = some 0) (d : decode cc pc = .ok (.getfield i, 3)) (kk : Wx Y K σ (pc + 3) lv (.int (σ.1 k j) :: st)) : Wx Y K σ pc lv (.ref (kad K k) :: st) := x_getV C hk hd hc hin hj hl (by rw [hf]; rfl) d kk
theorem x_getL (C : Cx Y K cc own n) {k ci j i : Nat} {fd : List Nat} {q : vw_C} (hk : k ∈ Y.1) (hd : Y.2 k = .inl (ci, fd)) (hc : vwCl[ci]? = some q) (hin : ∀ w ∈ u_ws q.1 q.2.1 q.2.2, w ∈ mB) (hj : j < q.2.2) (hl : Cond.fieldLink own i (q.2.1 j).1 (q.2.1 j).2.1 (q.2.1 j).2.2.1 ∈ mB) (hf : fd[j]? = some 1) (d : decode cc pc = .ok (.getfield i, 3)) (kk : Wx Y K σ (pc + 3) lv (.long (σ.2 k j) :: st)) : Wx Y K σ pc lv (.ref (kad K k) :: st) := x_getV C hk hd hc hin hj hl (by rw [hf]; rfl) d kk
theorem x_getR (C : Cx Y K cc own n) {k ci j i : Nat} {fd : List Nat} {q : vw_C} (k2 : Nat) (hk : k ∈ Y.1) (hd : Y.2 k = .inl (ci, fd)) (hc : vwCl[ci]? = some q) (hin : ∀ w ∈ u_ws q.1 q.2.1 q.2.2, w ∈ mB) (hj : j < q.2.2) (hl : Cond.fieldLink own i (q.2.1 j).1 (q.2.1 j).2.1 (q.2.1 j).2.2.1 ∈ mB) (hf : fd[j]? = some (k2 + 2)) (d : decode cc pc = .ok (.getfield i, 3)) (kk : Wx Y K σ (pc + 3) lv (.ref (kad K k2) :: st)) : Wx Y K σ pc lv (.ref (kad K k) :: st) := x_getV C hk hd hc hin hj hl (by rw [hf]; rfl) d kk
theorem x_getIN (C : Cx Y K cc own n) {host : String} {k ci j i : Nat} {fd : List Nat} {q : vw_C} (hk : k ∈ Y.1) (hd : Y.2 k = .inl (ci, fd)) (hc : vwCl[ci]? = some q) (hin : ∀ w ∈ u_ws q.1 q.2.1 q.2.2, w ∈ mB) (hj : j < q.2.2) (hl : Cond.fieldLinkNest own i (q.2.1 j).1 (q.2.1 j).2.1 (q.2.1 j).2.2.1 host ∈ mNs) (hf : fd[j]? = some 0) (d : decode cc pc = .ok (.getfield i, 3)) (kk : Wx Y K σ (pc + 3) lv (.int (σ.1 k j) :: st)) : Wx Y K σ pc lv (.ref (kad K k) :: st) := x_getVN C hk hd hc hin hj hl (by rw [hf]; rfl) d kk
theorem x_getRN (C : Cx Y K cc own n) {host : String} {k ci j i : Nat} {fd : List Nat} {q : vw_C} (k2 : Nat) (hk : k ∈ Y.1) (hd : Y.2 k = .inl (ci, fd)) (hc : vwCl[ci]? = some q) (hin : ∀ w ∈ u_ws q.1 q.2.1 q.2.2, w ∈ mB) (hj : j < q.2.2) (hl : Cond.fieldLinkNest own i (q.2.1 j).1 (q.2.1 j).2.1 (q.2.1 j).2.2.1 host ∈ mNs) (hf : fd[j]? = some (k2 + 2)) (d : decode cc pc = .ok (.getfield i, 3)) (kk : Wx Y K σ (pc + 3) lv (.ref (kad K k2) :: st)) : Wx Y K σ pc lv (.ref (kad K k) :: st) := x_getVN C hk hd hc hin hj hl (by rw [hf]; rfl) d kk
theorem x_putI (C : Cx Y K cc own n) {k ci j i : Nat} {fd : List Nat} {q : vw_C} {v : Int32} (ty0 : Nat → FieldType) (hty : ∀ k, k < q.2.2 → parseFieldDescriptor (q.2.1 k).2.2.1 = some (ty0 k)) (hnm : ∀ a, a < q.2.2 → ∀ b, b < q.2.2 → a ≠ b → (q.2.1 a).2.1 ≠ (q.2.1 b).2.1) (hk : k ∈ Y.1) (hd : Y.2 k = .inl (ci, fd)) (hc : vwCl[ci]? = some q) (hin : ∀ w ∈ u_ws q.1 q.2.1 q.2.2, w ∈ mB) (hj : j < q.2.2) (hl : Cond.fieldLink own i (q.2.1 j).1 (q.2.1 j).2.1 (q.2.1 j).2.2.1 ∈ mB) (hfin : (q.2.1 j).2.2.2 = false) (hi : parseFieldDescriptor (q.2.1 j).2.2.1 = some .int) (hf : fd[j]? = some 0) (d : decode cc pc = .ok (.putfield i, 3)) (kk : Wx Y K (mwI σ k j v) (pc + 3) lv st) : Wx Y K σ pc lv (.int v :: .ref (kad K k) :: st) := by
  intro H locs ls hP hS hl2
  obtain ⟨p0, hp0, he⟩ := mwo_at (ad := kad K) (cy := kcy K) (σ := σ) hk hd
  have hlen : j < fd.length := (List.getElem?_eq_some_iff.mp hf).1
  refine va_put C.1 C.2.1 C.2.2.2.2.1 hin ty0 hty hnm C.2.2.2.1 C.2.2.2.2.2.1 hP (mwo_D C.2.2.2.2.2.2.1 _ _) hS p0 he hc j hj (C.2.2.2.2.1 _ hl) (fun _ h => h) hfin hi rfl rfl (by rw [mfs_len]; exact hlen) d (fun H1 locs1 hP1 _ hS1 => ?_)
  rw [mwo_set (σ := σ) (τ := mwI σ k j v) C.2.2.2.2.2.2.1.1 hp0 (by rw [hd]; simp only [mce]; rw [mfs_I hf]) mwI_o] at hP1
  exact kk H1 locs1 ls hP1 hS1 hl2
theorem x_putIN (C : Cx Y K cc own n) {host : String} {k ci j i : Nat} {fd : List Nat} {q : vw_C} {v : Int32} (ty0 : Nat → FieldType) (hty : ∀ k, k < q.2.2 → parseFieldDescriptor (q.2.1 k).2.2.1 = some (ty0 k)) (hnm : ∀ a, a < q.2.2 → ∀ b, b < q.2.2 → a ≠ b → (q.2.1 a).2.1 ≠ (q.2.1 b).2.1) (hk : k ∈ Y.1) (hd : Y.2 k = .inl (ci, fd)) (hc : vwCl[ci]? = some q) (hin : ∀ w ∈ u_ws q.1 q.2.1 q.2.2, w ∈ mB) (hj : j < q.2.2) (hl : Cond.fieldLinkNest own i (q.2.1 j).1 (q.2.1 j).2.1 (q.2.1 j).2.2.1 host ∈ mNs) (hfin : (q.2.1 j).2.2.2 = false) (hi : parseFieldDescriptor (q.2.1 j).2.2.1 = some .int) (hf : fd[j]? = some 0) (d : decode cc pc = .ok (.putfield i, 3)) (kk : Wx Y K (mwI σ k j v) (pc + 3) lv st) : Wx Y K σ pc lv (.int v :: .ref (kad K k) :: st) := by
  intro H locs ls hP hS hl2
  obtain ⟨p0, hp0, he⟩ := mwo_at (ad := kad K) (cy := kcy K) (σ := σ) hk hd
  have hlen : j < fd.length := (List.getElem?_eq_some_iff.mp hf).1
  refine va_putN C.1 C.2.1 C.2.2.2.2.1 hin ty0 hty hnm C.2.2.2.1 C.2.2.2.2.2.1 hP (mwo_D C.2.2.2.2.2.2.1 _ _) hS p0 he hc j hj (va_Nw.use rfl (C.2.2.2.2.2.2.2.1.1 _ hl)) (fun _ h => h) hfin hi rfl rfl (by rw [mfs_len]; exact hlen) d (fun H1 locs1 hP1 _ hS1 => ?_)
  rw [mwo_set (σ := σ) (τ := mwI σ k j v) C.2.2.2.2.2.2.1.1 hp0 (by rw [hd]; simp only [mce]; rw [mfs_I hf]) mwI_o] at hP1
  exact kk H1 locs1 ls hP1 hS1 hl2
theorem x_putL (C : Cx Y K cc own n) {k ci j i : Nat} {fd : List Nat} {q : vw_C} {v : Int64} (ty0 : Nat → FieldType) (hty : ∀ k, k < q.2.2 → parseFieldDescriptor (q.2.1 k).2.2.1 = some (ty0 k)) (hnm : ∀ a, a < q.2.2 → ∀ b, b < q.2.2 → a ≠ b → (q.2.1 a).2.1 ≠ (q.2.1 b).2.1) (hk : k ∈ Y.1) (hd : Y.2 k = .inl (ci, fd)) (hc : vwCl[ci]? = some q) (hin : ∀ w ∈ u_ws q.1 q.2.1 q.2.2, w ∈ mB) (hj : j < q.2.2) (hl : Cond.fieldLink own i (q.2.1 j).1 (q.2.1 j).2.1 (q.2.1 j).2.2.1 ∈ mB) (hfin : (q.2.1 j).2.2.2 = false) (hi : parseFieldDescriptor (q.2.1 j).2.2.1 = some .long) (hf : fd[j]? = some 1) (d : decode cc pc = .ok (.putfield i, 3)) (kk : Wx Y K (mwL σ k j v) (pc + 3) lv st) : Wx Y K σ pc lv (.long v :: .ref (kad K k) :: st) := by
  intro H locs ls hP hS hl2
  obtain ⟨p0, hp0, he⟩ := mwo_at (ad := kad K) (cy := kcy K) (σ := σ) hk hd
  have hlen : j < fd.length := (List.getElem?_eq_some_iff.mp hf).1
  refine va_put C.1 C.2.1 C.2.2.2.2.1 hin ty0 hty hnm C.2.2.2.1 C.2.2.2.2.2.1 hP (mwo_D C.2.2.2.2.2.2.1 _ _) hS p0 he hc j hj (C.2.2.2.2.1 _ hl) (fun _ h => h) hfin hi rfl rfl (by rw [mfs_len]; exact hlen) d (fun H1 locs1 hP1 _ hS1 => ?_)
  rw [mwo_set (σ := σ) (τ := mwL σ k j v) C.2.2.2.2.2.2.1.1 hp0 (by rw [hd]; simp only [mce]; rw [mfs_L hf]) mwL_o] at hP1
  exact kk H1 locs1 ls hP1 hS1 hl2
/-! arrays -/
theorem x_iald (C : Cx Y K cc own n) {k z : Nat} {i : Int32} (hk : k ∈ Y.1) (hd : Y.2 k = .inr (.inl (0, z))) (hi : vp_in i z) (d : decode cc pc = .ok (.iaload, 1)) (kk : Wx Y K σ (pc + 1) lv (.int (σ.1 k i.toNatClampNeg) :: st)) : Wx Y K σ pc lv (.int i :: .ref (kad K k) :: st) := by
  intro H locs ls hP hS hl2
  obtain ⟨p0, hp0, he⟩ := mwo_at (ad := kad K) (cy := kcy K) (σ := σ) hk hd
  exact va_iald C.1 C.2.1 C.2.2.2.2.2.1 hP p0 0 he rfl hi d (kk H locs ls hP hS hl2)
theorem x_bald (C : Cx Y K cc own n) {k z : Nat} {i : Int32} (hk : k ∈ Y.1) (hd : Y.2 k = .inr (.inl (1, z))) (hi : vp_in i z) (d : decode cc pc = .ok (.baload, 1)) (kk : Wx Y K σ (pc + 1) lv (.int (σ.1 k i.toNatClampNeg) :: st)) : Wx Y K σ pc lv (.int i :: .ref (kad K k) :: st) := by
  intro H locs ls hP hS hl2
  obtain ⟨p0, hp0, he⟩ := mwo_at (ad := kad K) (cy := kcy K) (σ := σ) hk hd
  exact va_bald C.1 C.2.1 C.2.2.2.2.2.1 hP p0 1 he rfl hi d (kk H locs ls hP hS hl2)
theorem x_iast (C : Cx Y K cc own n) {k z : Nat} {i x : Int32} (hk : k ∈ Y.1) (hd : Y.2 k = .inr (.inl (0, z))) (hi : vp_in i z) (d : decode cc pc = .ok (.iastore, 1)) (kk : Wx Y K (mwI σ k i.toNatClampNeg x) (pc + 1) lv st) : Wx Y K σ pc lv (.int x :: .int i :: .ref (kad K k) :: st) := by
  intro H locs ls hP hS hl2
  obtain ⟨p0, hp0, he⟩ := mwo_at (ad := kad K) (cy := kcy K) (σ := σ) hk hd
  refine va_iast C.1 C.2.1 C.2.2.2.2.2.1 hP (mwo_D C.2.2.2.2.2.2.1 _ _) hS p0 0 he rfl hi d (fun H1 locs1 hP1 _ hS1 => ?_)
  rw [mwo_set (σ := σ) (τ := mwI σ k i.toNatClampNeg x) C.2.2.2.2.2.2.1.1 hp0 (by rw [hd]; simp [mce, mwI, va_up]) mwI_o] at hP1
  exact kk H1 locs1 ls hP1 hS1 hl2
theorem x_bast (C : Cx Y K cc own n) {k z : Nat} {i x : Int32} (hk : k ∈ Y.1) (hd : Y.2 k = .inr (.inl (1, z))) (hi : vp_in i z) (d : decode cc pc = .ok (.bastore, 1)) (kk : Wx Y K (mwI σ k i.toNatClampNeg x.toInt8.toInt32) (pc + 1) lv st) : Wx Y K σ pc lv (.int x :: .int i :: .ref (kad K k) :: st) := by
  intro H locs ls hP hS hl2
  obtain ⟨p0, hp0, he⟩ := mwo_at (ad := kad K) (cy := kcy K) (σ := σ) hk hd
  refine va_bast C.1 C.2.1 C.2.2.2.2.2.1 hP (mwo_D C.2.2.2.2.2.2.1 _ _) hS p0 1 he rfl hi d (fun H1 locs1 hP1 _ hS1 => ?_)
  rw [mwo_set (σ := σ) (τ := mwI σ k i.toNatClampNeg x.toInt8.toInt32) C.2.2.2.2.2.2.1.1 hp0 (by rw [hd, vp_nar_byte]; simp [mce, mwI, va_up]) mwI_o] at hP1
  exact kk H1 locs1 ls hP1 hS1 hl2
theorem x_alen (C : Cx Y K cc own n) {k z b : Nat} {v : Int32} {ty : FieldType} (hk : k ∈ Y.1) (hd : Y.2 k = .inr (.inl (b, z))) (ht : (mty (kcy K))[b]? = some (kcy K b, ty)) (hv : Int32.ofNat z = v) (d : decode cc pc = .ok (.arraylength, 1)) (kk : Wx Y K σ (pc + 1) lv (.int v :: st)) : Wx Y K σ pc lv (.ref (kad K k) :: st) := by
  intro H locs ls hP hS hl2
  obtain ⟨p0, hp0, he⟩ := mwo_at (ad := kad K) (cy := kcy K) (σ := σ) hk hd
  exact va_alen C.1 C.2.1 C.2.2.2.2.2.1 hP p0 b he ht hv d (kk H locs ls hP hS hl2)
theorem x_aald (C : Cx Y K cc own n) {k z b base : Nat} {i : Int32} {ty : FieldType} (hk : k ∈ Y.1) (hd : Y.2 k = .inr (.inr (b, z, base))) (ht : (mty (kcy K))[b]? = some (kcy K b, ty)) (hr : ty.isReference = true) (hi : vp_in i z) (d : decode cc pc = .ok (.aaload, 1)) (kk : Wx Y K σ (pc + 1) lv (.ref (kad K (base + i.toNatClampNeg)) :: st)) : Wx Y K σ pc lv (.int i :: .ref (kad K k) :: st) := by
  intro H locs ls hP hS hl2
  obtain ⟨p0, hp0, he⟩ := mwo_at (ad := kad K) (cy := kcy K) (σ := σ) hk hd
  have hlt : i.toNatClampNeg < z := Nat.not_le.mp fun q => hi (Or.inr q)
  exact W.aald (v := .ref (kad K (base + i.toNatClampNeg))) (ty := ty) C.1 C.2.1 (hP p0 _ he) ((C.2.2.2.2.2.1.2 b _ ht).1 z (fun j => va_rf (some (kad K (base + j))))) hr (fun q => by cases q) (by show ¬ (i < 0 ∨ (arrV _ _ _).slots.size ≤ _); rw [arrV_size]; exact hi) (by show (arrV _ _ _).slots[_]? = _; rw [arrV_read _ _ hlt]; rfl) rfl rfl d (kk H locs ls hP hS hl2)
theorem x_acopy (C : Cx Y K cc own n) {k k2 z z2 i : Nat} {sp dp m : Int32} (hk : k ∈ Y.1) (hd : Y.2 k = .inr (.inl (0, z))) (hk2 : k2 ∈ Y.1) (hd2 : Y.2 k2 = .inr (.inl (0, z2))) (hn : 1 ≤ n) (hl : Cond.methodLink own i arraycopyName ∈ mB) (w1 : Cond.native arraycopyName ∈ mB) (w2 : Cond.static arraycopyName ∈ mB) (w3 : Cond.initialized "java/lang/System" ∈ mB) (h1 : ¬ sp < 0) (h2 : ¬ dp < 0) (h3 : ¬ m < 0) (h4 : sp.toNatClampNeg + m.toNatClampNeg ≤ z) (h5 : dp.toNatClampNeg + m.toNatClampNeg ≤ z2) (hr : (st.map fun v => v.category).sum ≤ 8) (d : decode cc pc = .ok (.invokestatic i, 3)) (kk : Wx Y K (mcp σ k sp.toNatClampNeg k2 dp.toNatClampNeg m.toNatClampNeg) (pc + 3) lv st) : Wx Y K σ pc lv (.int m :: .int dp :: .ref (kad K k2) :: .int sp :: .ref (kad K k) :: st) := by
  intro H locs ls hP hS hl2
  obtain ⟨p0, hp0, he⟩ := mwo_at (ad := kad K) (cy := kcy K) (σ := σ) hk hd
  obtain ⟨p1, hp1, he1⟩ := mwo_at (ad := kad K) (cy := kcy K) (σ := σ) hk2 hd2
  have hf9 : 1 ≤ (kR K).frames := by rw [C.2.2.2.2.2.2.2.2]; exact hn
  have hl9 : (st.map fun v => v.category).sum + (nativeFrameWords "java/lang/System" "arraycopy" 5 + 11) ≤ (kR K).locals := by
    rw [C.2.2.2.2.2.2.2.2]
    show _ ≤ 50 * n
    have h9 : nativeFrameWords "java/lang/System" "arraycopy" 5 ≤ 25 := by decide
    generalize nativeFrameWords "java/lang/System" "arraycopy" 5 = z9 at h9 ⊢
    generalize (List.map (fun v => v.category) st).sum = z8 at hr ⊢
    omega
  refine va_copyi C.1 C.2.1 (C.2.2.1.trans hl2.1.symm) C.2.2.2.1 (C.2.2.2.2.1 _ hl) (C.2.2.2.2.1 _ w1) (C.2.2.2.2.1 _ w2) (C.2.2.2.2.1 _ w3) C.2.2.2.2.2.1 hP (mwo_D C.2.2.2.2.2.2.1 _ _) hS p0 p1 0 0 he he1 rfl rfl rfl h1 h2 h3 h4 h5 (fun _ _ => rfl) hf9 hl9 d (fun H1 locs1 hP1 _ hS1 => ?_)
  rw [mwo_set (σ := σ) (τ := mcp σ k sp.toNatClampNeg k2 dp.toNatClampNeg m.toNatClampNeg) C.2.2.2.2.2.2.1.1 hp1 (by rw [hd2]; simp [mce, mcp, va_up]) (fun k' h => ⟨by simp [mcp, va_up, h], rfl⟩)] at hP1
  exact kk H1 locs1 ls hP1 hS1 hl2
/-! the letters' row -/
theorem x_letget (C : Cx Y K cc own n) {i : Nat} (hl : Cond.fieldLink own i "CalledNumbers" "LETTERS" "[I" ∈ mB) (d : decode cc pc = .ok (.getstatic i, 3)) (kk : ∀ t : Nat, va_T .int t 6 (fun j => .int (mLet j)) (mA Y (kad K)) (ks K) (ks K).heap → Wx Y K σ (pc + 3) lv (.ref t :: st)) : Wx Y K σ pc lv st := by
  intro H locs ls hP hS hl2
  obtain ⟨t, h1, h2⟩ := C.2.2.2.2.2.2.2.1.2.2
  exact va_gets C.1 C.2.1 h1 hS C.2.2.2.1 (C.2.2.2.2.1 _ hl) (fun _ h => h) d (kk t h2 H locs ls hP hS hl2)
theorem x_letald (C : Cx Y K cc own n) {t : Nat} {i : Int32} (hT : va_T .int t 6 (fun j => .int (mLet j)) (mA Y (kad K)) (ks K) (ks K).heap) (hi : vp_in i 6) (d : decode cc pc = .ok (.iaload, 1)) (kk : Wx Y K σ (pc + 1) lv (.int (mLet i.toNatClampNeg) :: st)) : Wx Y K σ pc lv (.int i :: .ref t :: st) := by
  intro H locs ls hP hS hl2
  exact va_ti C.1 C.2.1 hT hS hi rfl d (kk H locs ls hP hS hl2)
/-! returns -/
theorem x_iret (C : Cx Y K cc own n) {v : Int32} (hR : Rx Y K (some .int) (some (.int v)) σ) (d : decode cc pc = .ok (.ireturn, 1)) : Wx Y K σ pc lv [.int v] := by
  intro H locs ls hP hS hl2
  rw [hR.2.2]
  exact W.iret C.1 C.2.1 hR.1 (fun t ht _ => ⟨rfl, by rw [ht]; exact hP, hS.F ht⟩) hS.2.2 d hR.2.1
theorem x_zret (C : Cx Y K cc own n) {v : Int32} (hv : v = 0 ∨ v = 1) (hR : Rx Y K (some .boolean) (some (.int v)) σ) (d : decode cc pc = .ok (.ireturn, 1)) : Wx Y K σ pc lv [.int v] := by
  intro H locs ls hP hS hl2
  rw [hR.2.2]
  exact W.zret C.1 C.2.1 hR.1 (by rcases hv with rfl | rfl <;> rfl) (fun t ht _ => ⟨rfl, by rw [ht]; exact hP, hS.F ht⟩) hS.2.2 d hR.2.1
theorem x_lret (C : Cx Y K cc own n) {v : Int64} (hR : Rx Y K (some .long) (some (.long v)) σ) (d : decode cc pc = .ok (.lreturn, 1)) : Wx Y K σ pc lv [.long v] := by
  intro H locs ls hP hS hl2
  rw [hR.2.2]
  exact W.lret C.1 C.2.1 hR.1 (fun t ht _ => ⟨rfl, by rw [ht]; exact hP, hS.F ht⟩) hS.2.2 d hR.2.1
theorem x_vret (C : Cx Y K cc own n) (hR : Rx Y K none none σ) (d : decode cc pc = .ok (.return_, 1)) : Wx Y K σ pc lv [] := by
  intro H locs ls hP hS hl2
  rw [hR.2.2]
  exact W.vret C.1 C.2.1 hR.1 (fun t ht _ => ⟨rfl, by rw [ht]; exact hP, hS.F ht⟩) hS.2.2 d hR.2.1
theorem x_aret (C : Cx Y K cc own n) {a : Nat} {nm : String} (hR : Rx Y K (some (.object nm)) (some (.ref a)) σ) (d : decode cc pc = .ok (.areturn, 1)) : Wx Y K σ pc lv [.ref a] := by
  intro H locs ls hP hS hl2
  rw [hR.2.2]
  exact W.aret C.1 C.2.1 hR.1 (Or.inl ⟨nm, rfl⟩) (Or.inr ⟨a, rfl⟩) (fun t ht _ => ⟨rfl, by rw [ht]; exact hP, hS.F ht⟩) hS.2.2 d hR.2.1
/-! calls -/
theorem x_run {v : Option Value} (a : Array Value) (hr : ∀ (H : Heap) (locs : List Loc) (ls : Array Slot), va_P (kD K) vwCl (mwo Y (kad K) (kcy K) σ) H → va_S (mA Y (kad K)) (ks K).heap H locs → lv_has ls (kn K) lv → va_Run (kp K) (kl K) (ke K) (kR K) (ks K) (km K) (ka K) (kb K) (kme K) (kc K) H locs 0 0 0 0 (F0 (km K) pc ls st) rest (Qg Y (kD K) (kad K) (kcy K) v τ a) (mA Y (kad K))) (kk : Wx Y K τ (pc + 3) lv (v.toList ++ rest)) : Wx Y K σ pc lv st := by
  intro H locs ls hP hS hl T hT X
  obtain ⟨v', st₀, t, T', L, h0, X', hL, e1, e2, ⟨hv, hP', hz, hk⟩, sg⟩ := hr H locs ls hP hS hl T hT X
  cases hv
  rw [h0] at hz hk
  obtain ⟨t2, a1, b1⟩ := kk T'.heap (locs ++ L) ls (by rw [e1]; exact hP')
    ⟨Nat.le_trans hS.1 (by rw [e1]; exact hz), fun q h1 h2 => by rw [e1, hk q (Nat.lt_of_lt_of_le h1 hS.1) h2]; exact hS.2.1 q h1 h2, fun q hq => by
      rcases List.mem_append.mp hq with h | h
      · exact hS.2.2 q h
      · exact hL q h⟩ hl T' rfl X'
  exact ⟨t2, sg t2 a1, b1⟩
theorem x_pre (C : Cx Y K cc own n) {H : Heap} {locs : List Loc} {av : List Value} (hP : va_P (kD K) vwCl (mwo Y (kad K) (kcy K) σ) H) (hS : va_S (mA Y (kad K)) (ks K).heap H locs) : PreS (ks K) H (va_Pc av (Pg Y (kD K) (kad K) (kcy K) σ)) av := by
  refine ⟨Pg_blind, fun U hU hW => ⟨rfl, by rw [hU]; exact hP, va_K.moved hW.alike C.2.2.2.2.2.1, mT_warm hW (fun a h1 h2 => by rw [hU]; exact hS.2.1 a h1 h2) C.2.2.2.2.2.2.2.1⟩⟩
/-- the callee's room fits -/
theorem x_room (C : Cx Y K cc own n) {nc maxL : Nat} (h : nc < n) (hm : maxL ≤ 31) : (rmN nc).frames + 1 ≤ (kR K).frames ∧ 8 + (maxL + 11) + (rmN nc).locals ≤ (kR K).locals := by
  rw [C.2.2.2.2.2.2.2.2]
  refine ⟨h, ?_⟩
  show 8 + (maxL + 11) + 50 * nc ≤ 50 * n
  omega
/-- a call of an instance method of class Cn, by its own name -/
theorem x_callV (C : Cx Y K cc own n) {y : MethodName} {cd : ByteArray} {maxL nc ar i k ci : Nat} {ret : Option FieldType} {As : List Value} {v : Option Value} {fd : List Nat} {q : vw_C} (hM : MetG (kl K) Y (kD K) (kad K) (kcy K) y cd maxL ret nc (.ref (kad K k) :: As) σ v τ) (hk : k ∈ Y.1) (hd : Y.2 k = .inl (ci, fd)) (hc : vwCl[ci]? = some q) (hy : y.cls = q.1 ∧ y.cls ≠ "java/lang/invoke/MethodHandle" ∧ y.cls ≠ "java/lang/invoke/VarHandle" ∧ (parseMethodDescriptor y.desc).map (fun d => d.parameters.length) = some ar) (hw : Cond.methodLink own i y ∈ mB ∧ Cond.instanceMethod y ∈ mB ∧ Cond.selects q.1 y y ∈ mB ∧ Cond.initialized q.1 ∈ mB ∧ Cond.code y cd maxL ret ∈ mB) (hn : nc < n) (hm : maxL ≤ 31) (ha : As.length = ar) (hst : st = As.reverse ++ .ref (kad K k) :: rest) (hr : (rest.map fun v => v.category).sum ≤ 8) (d : decode cc pc = .ok (.invokevirtual i, 3)) (kk : Wx Y K τ (pc + 3) lv (v.toList ++ rest)) : Wx Y K σ pc lv st := by
  refine x_run ((Value.ref (kad K k) :: As).toArray) (fun H locs ls hP hS hl => ?_) kk
  have hT : GoodIn mB (wsV own i q.1 y (.code y cd maxL ret :: mB)) := mB_in (fun _ h => h) (fun w h => by
    rcases List.mem_append.mp h with h | h
    · simp only [List.mem_cons, List.not_mem_nil, or_false] at h
      rcases h with rfl | rfl | rfl | rfl
      · exact hw.1
      · exact hw.2.1
      · exact hw.2.2.1
      · exact hw.2.2.2.1
    · rcases List.mem_cons.mp h with rfl | h
      · exact hw.2.2.2.2
      · exact h)
  obtain ⟨p0, hp0, he⟩ := mwo_at (ad := kad K) (cy := kcy K) (σ := σ) hk hd
  have hp := x_pre C (av := .ref (kad K k) :: As) hP hS
  exact va_runV (nL := kn K) (cells := 0) (slots := 0) ⟨C.1, C.2.1, C.2.2.1, C.2.2.2.1, C.2.2.2.2.1⟩ hM (cwV ar C.2.2.2.2.1 hT rfl rfl rfl hy (x_room C hn hm)) ⟨hp.1, va_recv C.2.2.2.2.2.1 hP hc he, hp.2⟩ rfl ha hl.1 hst (lv_room hr) d ⟨Nat.zero_le _, Nat.zero_le _⟩
/-- a call of a static method -/
theorem x_callS (C : Cx Y K cc own n) {y : MethodName} {cd : ByteArray} {maxL nc ar i : Nat} {ret : Option FieldType} {As : List Value} {v : Option Value} (hM : MetG (kl K) Y (kD K) (kad K) (kcy K) y cd maxL ret nc As σ v τ) (hy : y.cls ≠ "java/lang/invoke/MethodHandle" ∧ y.cls ≠ "java/lang/invoke/VarHandle" ∧ (parseMethodDescriptor y.desc).map (fun d => d.parameters.length) = some ar) (hw : Cond.methodLink own i y ∈ mB ∧ Cond.static y ∈ mB ∧ Cond.initialized y.cls ∈ mB ∧ Cond.code y cd maxL ret ∈ mB) (hn : nc < n) (hm : maxL ≤ 31) (ha : As.length = ar) (hst : st = As.reverse ++ rest) (hr : (rest.map fun v => v.category).sum ≤ 8) (d : decode cc pc = .ok (.invokestatic i, 3)) (kk : Wx Y K τ (pc + 3) lv (v.toList ++ rest)) : Wx Y K σ pc lv st := by
  refine x_run (As.toArray) (fun H locs ls hP hS hl => ?_) kk
  have hT : GoodIn mB (va_wsS own i y (.code y cd maxL ret :: mB)) := mB_in (fun _ h => h) (fun w h => by
    rcases List.mem_append.mp h with h | h
    · simp only [List.mem_cons, List.not_mem_nil, or_false] at h
      rcases h with rfl | rfl | rfl
      · exact hw.1
      · exact hw.2.1
      · exact hw.2.2.1
    · rcases List.mem_cons.mp h with rfl | h
      · exact hw.2.2.2
      · exact h)
  exact va_runS (nL := kn K) (cells := 0) (slots := 0) ⟨C.1, C.2.1, C.2.2.1, C.2.2.2.1, C.2.2.2.2.1⟩ hM (va_cwS ar C.2.2.2.2.1 hT rfl rfl rfl hy (x_room C hn hm)) (x_pre C hP hS) rfl ha hl.1 hst (lv_room hr) d ⟨Nat.zero_le _, Nat.zero_le _⟩
end XR2
/-! loops -/
def lp {S R : Type} : Nat → (S → Option (S ⊕ R)) → S → Option R
  | 0, _, _ => none
  | n + 1, b, s => match b s with
    | none => none
    | some (.inl s') => lp n b s'
    | some (.inr r) => some r
theorem lp_G {S R : Type} {b : S → Option (S ⊕ R)} {G : S → Prop} {r : R} (hs : ∀ s x, b s = some x → (∀ s', x = .inl s' → G s') → (∀ r', x = .inr r' → r' = r) → G s) : ∀ n s, lp n b s = some r → G s
  | 0, s, h => by cases h
  | n + 1, s, h => by
    unfold lp at h
    cases hb : b s with
    | none => rw [hb] at h; cases h
    | some x =>
      rw [hb] at h
      refine hs s x hb (fun s' e => ?_) (fun r' e => ?_)
      · subst e; exact lp_G hs n s' h
      · subst e; exact Option.some.inj h
def big : Nat := 1000000
theorem ob_if {α : Type} {c : Prop} [Decidable c] {A : Option α} {x : α} (h : (if c then A else none) = some x) : c ∧ A = some x := by
  by_cases hc : c
  · rw [if_pos hc] at h; exact ⟨hc, h⟩
  · rw [if_neg hc] at h; cases h
theorem ob_bind {α β : Type} {A : Option α} {f : α → Option β} {x : β} (h : A.bind f = some x) : ∃ a, A = some a ∧ f a = some x := by
  cases A with
  | none => cases h
  | some a => exact ⟨a, rfl, h⟩
end
section
/-! the class's cells: number 8 g + i, group g -/
def lyX (k : Nat) : mD := match k / 8 with
  | 0 => .inl (10, [10, 26, 34, 50, 58, 90, 151, 165, 178, 186, 194, 0, 202, 0, 1, 1, 0, 210])
  | 1 => .inr (.inr (2, 6, 16))
  | 2 => .inr (.inl (0, 40))
  | 3 => .inr (.inl (0, 6))
  | 4 => .inr (.inr (3, 4, 40))
  | 5 => .inr (.inl (1, 60))
  | 6 => .inr (.inl (0, 4))
  | 7 => .inl (6, [66, 74, 0])
  | 8 => .inr (.inl (0, 4))
  | 9 => .inr (.inr (2, 4, 80))
  | 10 => .inr (.inl (0, 6))
  | 11 => .inl (7, [98, 114, 122, 138, 0])
  | 12 => .inr (.inr (6, 6, 104))
  | 13 => .inl ((match k % 8 with
    | 0 => 5
    | 1 => 9
    | 2 => 0
    | 3 => 3
    | 4 => 4
    | _ => 8), [])
  | 14 => .inr (.inl (0, 4))
  | 15 => .inr (.inr (2, 4, 128))
  | 16 => .inr (.inl (0, 6))
  | 17 => .inr (.inl (0, 4))
  | 18 => .inl (2, [90, k + 8 + 2, 0, 0, 0, 0])
  | 19 => .inr (.inl (0, 4))
  | 20 => .inl (1, [k + 8 + 2, 0])
  | 21 => .inr (.inl (0, 40))
  | 22 => .inr (.inr (4, 3, 160))
  | 23 => .inr (.inr (5, 5, 144))
  | 24 => .inr (.inl (0, 4))
  | 25 => .inr (.inl (0, 7))
  | _ => .inr (.inl (0, 6))
def idX : List Nat := [0, 8, 16, 17, 18, 19, 20, 21, 24, 32, 40, 41, 42, 43, 48, 56, 64, 72, 80, 81, 82, 83, 88, 96, 104, 105, 106, 107, 108, 109, 112, 120, 128, 129, 130, 131, 136, 144, 145, 146, 147, 148, 149, 152, 153, 154, 155, 156, 157, 160, 161, 162, 163, 168, 169, 170, 171, 176, 184, 192, 200, 208]
def LX : mY := (idX, lyX)
theorem LX_nd : va_nd LX.1 = true := by decide +kernel
theorem iX : ∀ k, k ∈ idX → k ∈ LX.1 := fun _ h => h
theorem iX2 {i : Nat} (h : i < 6) : 16 + i ∈ LX.1 := (by decide +kernel : ∀ i, i < 6 → 16 + i ∈ idX) i h
theorem iX5 {i : Nat} (h : i < 4) : 40 + i ∈ LX.1 := (by decide +kernel : ∀ i, i < 4 → 40 + i ∈ idX) i h
theorem iX10 {i : Nat} (h : i < 4) : 80 + i ∈ LX.1 := (by decide +kernel : ∀ i, i < 4 → 80 + i ∈ idX) i h
theorem iX13 {i : Nat} (h : i < 6) : 104 + i ∈ LX.1 := (by decide +kernel : ∀ i, i < 6 → 104 + i ∈ idX) i h
theorem iX16 {i : Nat} (h : i < 4) : 128 + i ∈ LX.1 := (by decide +kernel : ∀ i, i < 4 → 128 + i ∈ idX) i h
theorem iX18 {i : Nat} (h : i < 6) : 144 + i ∈ LX.1 := (by decide +kernel : ∀ i, i < 6 → 144 + i ∈ idX) i h
theorem iX19 {i : Nat} (h : i < 6) : 152 + i ∈ LX.1 := (by decide +kernel : ∀ i, i < 6 → 152 + i ∈ idX) i h
theorem iX20 {i : Nat} (h : i < 4) : 160 + i ∈ LX.1 := (by decide +kernel : ∀ i, i < 4 → 160 + i ∈ idX) i h
theorem iX21 {i : Nat} (h : i < 4) : 168 + i ∈ LX.1 := (by decide +kernel : ∀ i, i < 4 → 168 + i ∈ idX) i h
theorem lX2 {i : Nat} (h : i < 6) : LX.2 (16 + i) = .inr (.inl (0, 40)) := (by decide +kernel : ∀ i, i < 6 → lyX (16 + i) = .inr (.inl (0, 40))) i h
theorem lX5 {i : Nat} (h : i < 4) : LX.2 (40 + i) = .inr (.inl (1, 60)) := (by decide +kernel : ∀ i, i < 4 → lyX (40 + i) = .inr (.inl (1, 60))) i h
theorem lX10 {i : Nat} (h : i < 4) : LX.2 (80 + i) = .inr (.inl (0, 6)) := (by decide +kernel : ∀ i, i < 4 → lyX (80 + i) = .inr (.inl (0, 6))) i h
theorem lX16 {i : Nat} (h : i < 4) : LX.2 (128 + i) = .inr (.inl (0, 6)) := (by decide +kernel : ∀ i, i < 4 → lyX (128 + i) = .inr (.inl (0, 6))) i h
theorem lX18 {i : Nat} (h : i < 6) : LX.2 (144 + i) = .inl (2, [90, 152 + i + 2, 0, 0, 0, 0]) := (by decide +kernel : ∀ i, i < 6 → lyX (144 + i) = .inl (2, [90, 152 + i + 2, 0, 0, 0, 0])) i h
theorem lX19 {i : Nat} (h : i < 6) : LX.2 (152 + i) = .inr (.inl (0, 4)) := (by decide +kernel : ∀ i, i < 6 → lyX (152 + i) = .inr (.inl (0, 4))) i h
theorem lX20 {i : Nat} (h : i < 4) : LX.2 (160 + i) = .inl (1, [168 + i + 2, 0]) := (by decide +kernel : ∀ i, i < 4 → lyX (160 + i) = .inl (1, [168 + i + 2, 0])) i h
theorem lX21 {i : Nat} (h : i < 4) : LX.2 (168 + i) = .inr (.inl (0, 40)) := (by decide +kernel : ∀ i, i < 4 → lyX (168 + i) = .inr (.inl (0, 40))) i h
/-! the reference's cells -/
def lyM (k : Nat) : mD := match k with
  | 0 => .inl (11, [3, 4, 5, 6, 7, 0, 8, 9, 0, 10, 11, 12, 0, 13, 0, 1, 1, 0, 14, 15, 16, 17])
  | 1 => .inr (.inl (0, 6))
  | 2 => .inr (.inl (0, 240))
  | 3 => .inr (.inl (0, 40))
  | 4 => .inr (.inl (0, 4))
  | 5 => .inr (.inl (1, 240))
  | 6 => .inr (.inl (0, 4))
  | 7 => .inr (.inl (0, 24))
  | 8 => .inr (.inl (0, 4))
  | 9 => .inr (.inl (0, 24))
  | 10 => .inr (.inl (0, 1360))
  | 11 => .inr (.inl (0, 3))
  | 12 => .inr (.inl (0, 6))
  | _ => .inr (.inl (0, 5))
def idM : List Nat := [0, 1, 2, 3, 4, 5, 6, 7, 8, 9, 10, 11, 12, 13, 14, 15]
def LM : mY := (idM, lyM)
theorem LM_nd : va_nd LM.1 = true := by decide +kernel
theorem iM : ∀ k, k ∈ idM → k ∈ LM.1 := fun _ h => h
/-! indices, as the pure functions look at them -/
def vin (i : Int32) (n : Nat) : Bool := !(decide (i < 0) || decide (n ≤ i.toNatClampNeg))
theorem vin_in {i : Int32} {n : Nat} (h : vin i n = true) : vp_in i n := by
  unfold vin at h
  unfold vp_in
  simpa using h
theorem vin_lt {i : Int32} {n : Nat} (h : vin i n = true) : i.toNatClampNeg < n := Nat.not_le.mp fun q => vin_in h (Or.inr q)
theorem ob_pos {α : Type} {c : Prop} [Decidable c] {A B x : α} (hc : c) (h : (if c then A else B) = x) : A = x := by rw [if_pos hc] at h; exact h
theorem ob_neg {α : Type} {c : Prop} [Decidable c] {A B x : α} (hc : ¬ c) (h : (if c then A else B) = x) : B = x := by rw [if_neg hc] at h; exact h
def bd {α β γ : Type} (A : Option (α × β)) (f : α → β → Option γ) : Option γ := A.bind (fun q => f q.1 q.2)
theorem ob_bd {α β γ : Type} {A : Option (α × β)} {f : α → β → Option γ} {x : γ} (h : bd A f = some x) : ∃ a b, A = some (a, b) ∧ f a b = some x := by
  cases A with
  | none => cases h
  | some q => exact ⟨q.1, q.2, rfl, h⟩
theorem lgc_gt {x y : Int64} : 0 < lg_cmp x y ↔ y < x := by
  unfold lg_cmp
  by_cases h1 : y < x
  · simp [h1]
  · by_cases h2 : x = y
    · simp [h2]
    · simp [h1, h2]
theorem lgc_lt {x y : Int64} : lg_cmp x y < 0 ↔ x < y := by
  unfold lg_cmp
  by_cases h1 : y < x
  · have h3 : ¬ x < y := fun h => by
      rw [Int64.lt_iff_toInt_lt] at h1 h
      omega
    simp [h1, h3]
  · by_cases h2 : x = y
    · subst h2
      simp [h1]
    · have h3 : x < y := by
        rw [Int64.lt_iff_toInt_lt] at h1 ⊢
        have h4 : x.toInt ≠ y.toInt := fun e => h2 (Int64.toInt_inj.mp e)
        omega
      simp [h1, h2, h3]
theorem lgc_eq {x y : Int64} : lg_cmp x y = 0 ↔ x = y := by
  unfold lg_cmp
  by_cases h2 : x = y
  · subst h2
    have h1 : ¬ x < x := fun h => by
      rw [Int64.lt_iff_toInt_lt] at h
      omega
    simp [h1]
  · by_cases h1 : y < x
    · simp [h1, h2]
    · simp [h1, h2]
theorem lgc_le {x y : Int64} : lg_cmp x y ≤ 0 ↔ x ≤ y := by
  have h1 : lg_cmp x y ≤ 0 ↔ ¬ 0 < lg_cmp x y := by rw [Int32.not_lt]
  rw [h1, lgc_gt, Int64.not_lt]
section XR3
variable {Y : mY} {K : Kx} {cc : ByteArray} {own : String} {n : Nat} {σ τ : mS} {pc : Nat} {lv lv' : List (Nat × Value)} {st rest : List Value}
theorem x_lcmplt (C : Cx Y K cc own n) {x y : Int64} {off : Int} (tgt : Nat) (d0 : decode cc pc = .ok (.lcmp, 1)) (d : decode cc (pc + 1) = .ok (.ifCond .lt off, 3)) (ht : ((pc + 1 : Nat) : Int) + off = (tgt : Int)) (kt : x < y → Wx Y K σ tgt lv st) (kf : ¬ x < y → Wx Y K σ (pc + 1 + 3) lv st) : Wx Y K σ pc lv (.long y :: .long x :: st) := fun H locs ls hP hS hl => W.lcmp C.1 C.2.1 d0 (lv_if_lt C.1 C.2.1 d ht (fun h => kt (lgc_lt.mp h) H locs ls hP hS hl) (fun h => kf (fun q => h (lgc_lt.mpr q)) H locs ls hP hS hl))
theorem x_lcmpgt (C : Cx Y K cc own n) {x y : Int64} {off : Int} (tgt : Nat) (d0 : decode cc pc = .ok (.lcmp, 1)) (d : decode cc (pc + 1) = .ok (.ifCond .gt off, 3)) (ht : ((pc + 1 : Nat) : Int) + off = (tgt : Int)) (kt : y < x → Wx Y K σ tgt lv st) (kf : ¬ y < x → Wx Y K σ (pc + 1 + 3) lv st) : Wx Y K σ pc lv (.long y :: .long x :: st) := fun H locs ls hP hS hl => W.lcmp C.1 C.2.1 d0 (lv_if_gt C.1 C.2.1 d ht (fun h => kt (lgc_gt.mp h) H locs ls hP hS hl) (fun h => kf (fun q => h (lgc_gt.mpr q)) H locs ls hP hS hl))
theorem x_lcmple (C : Cx Y K cc own n) {x y : Int64} {off : Int} (tgt : Nat) (d0 : decode cc pc = .ok (.lcmp, 1)) (d : decode cc (pc + 1) = .ok (.ifCond .le off, 3)) (ht : ((pc + 1 : Nat) : Int) + off = (tgt : Int)) (kt : x ≤ y → Wx Y K σ tgt lv st) (kf : ¬ x ≤ y → Wx Y K σ (pc + 1 + 3) lv st) : Wx Y K σ pc lv (.long y :: .long x :: st) := fun H locs ls hP hS hl => W.lcmp C.1 C.2.1 d0 (lv_if_le C.1 C.2.1 d ht (fun h => kt (lgc_le.mp h) H locs ls hP hS hl) (fun h => kf (fun q => h (lgc_le.mpr q)) H locs ls hP hS hl))
theorem x_lcmpeq (C : Cx Y K cc own n) {x y : Int64} {off : Int} (tgt : Nat) (d0 : decode cc pc = .ok (.lcmp, 1)) (d : decode cc (pc + 1) = .ok (.ifCond .eq off, 3)) (ht : ((pc + 1 : Nat) : Int) + off = (tgt : Int)) (kt : x = y → Wx Y K σ tgt lv st) (kf : ¬ x = y → Wx Y K σ (pc + 1 + 3) lv st) : Wx Y K σ pc lv (.long y :: .long x :: st) := fun H locs ls hP hS hl => W.lcmp C.1 C.2.1 d0 (lv_if_eq C.1 C.2.1 d ht (fun h => kt (lgc_eq.mp h) H locs ls hP hS hl) (fun h => kf (fun q => h (lgc_eq.mpr q)) H locs ls hP hS hl))
theorem x_dup2 (C : Cx Y K cc own n) {a b : Value} (d : decode cc pc = .ok (.dup2, 1)) (ha : a.category = 1) (hb : b.category = 1) (kk : Wx Y K σ (pc + 1) lv (a :: b :: a :: b :: st)) : Wx Y K σ pc lv (a :: b :: st) := fun H locs ls hP hS hl => lv_dup2_11 C.1 C.2.1 d ha hb (kk H locs ls hP hS hl)
end XR3
theorem sw_out {x : Int32} {lo hi : Int} (h : ∀ c : Int, lo ≤ c → c ≤ hi → x ≠ Int32.ofInt c) : x.toInt < lo ∨ hi < x.toInt := by
  by_cases h1 : x.toInt < lo
  · exact Or.inl h1
  · by_cases h2 : hi < x.toInt
    · exact Or.inr h2
    · exact absurd (Int32.ofInt_toInt x).symm (h x.toInt (by omega) (by omega))
theorem lw_pos {i : Nat} {w : Cond} (h : lw_tbl[i]? = some w) (g : goodWord w = true) : w ∈ mB := mB_of (List.mem_of_getElem? h) g
theorem lw_posN {i : Nat} {w : Cond} (h : lw_tbl[i]? = some w) (g : mNest w = true) : w ∈ mNs := mN_of (List.mem_of_getElem? h) g
end
section
theorem mB_ps {ws : List Cond} (ps : List Nat) (hp : ws = ps.filterMap (fun i => lw_tbl[i]?)) (hg : ws.all goodWord = true) : ∀ w ∈ ws, w ∈ mB := by
  intro w hw
  have h1 := List.all_eq_true.mp hg w hw
  rw [hp] at hw
  obtain ⟨i, -, hi⟩ := List.mem_filterMap.mp hw
  exact mB_of (List.mem_of_getElem? hi) h1
def un0 {α : Type} (f : α) (_ : Unit) : α := f
def un1 {A0 α : Type} (f : A0 → α) (q : A0) : α := f q
theorem un1_l {A0 α : Type} {f : A0 → α} {a0 : A0} {x : α} (h : un1 f a0 = x) : f a0 = x := h
def sm1 {A0 T : Type} (f : A0 → Option T) : (A0) ⊕ T → Option T
  | .inl q => f q
  | .inr t => some t
theorem sm1_l {A0 T : Type} {f : A0 → Option T} {a0 : A0} {x : Option T} (h : sm1 f (.inl a0) = x) : f a0 = x := h
theorem sm1_r {A0 T : Type} {f : A0 → Option T} {t x : T} (h : sm1 f (.inr t) = some x) : some t = some x := h
def un2 {A0 A1 α : Type} (f : A0 → A1 → α) (q : A0 × A1) : α := f q.1 q.2
theorem un2_l {A0 A1 α : Type} {f : A0 → A1 → α} {a0 : A0} {a1 : A1} {x : α} (h : un2 f (a0, a1) = x) : f a0 a1 = x := h
def sm2 {A0 A1 T : Type} (f : A0 → A1 → Option T) : (A0 × A1) ⊕ T → Option T
  | .inl q => f q.1 q.2
  | .inr t => some t
theorem sm2_l {A0 A1 T : Type} {f : A0 → A1 → Option T} {a0 : A0} {a1 : A1} {x : Option T} (h : sm2 f (.inl (a0, a1)) = x) : f a0 a1 = x := h
theorem sm2_r {A0 A1 T : Type} {f : A0 → A1 → Option T} {t x : T} (h : sm2 f (.inr t) = some x) : some t = some x := h
def un3 {A0 A1 A2 α : Type} (f : A0 → A1 → A2 → α) (q : A0 × A1 × A2) : α := f q.1 q.2.1 q.2.2
theorem un3_l {A0 A1 A2 α : Type} {f : A0 → A1 → A2 → α} {a0 : A0} {a1 : A1} {a2 : A2} {x : α} (h : un3 f (a0, a1, a2) = x) : f a0 a1 a2 = x := h
def sm3 {A0 A1 A2 T : Type} (f : A0 → A1 → A2 → Option T) : (A0 × A1 × A2) ⊕ T → Option T
  | .inl q => f q.1 q.2.1 q.2.2
  | .inr t => some t
theorem sm3_l {A0 A1 A2 T : Type} {f : A0 → A1 → A2 → Option T} {a0 : A0} {a1 : A1} {a2 : A2} {x : Option T} (h : sm3 f (.inl (a0, a1, a2)) = x) : f a0 a1 a2 = x := h
theorem sm3_r {A0 A1 A2 T : Type} {f : A0 → A1 → A2 → Option T} {t x : T} (h : sm3 f (.inr t) = some x) : some t = some x := h
def un4 {A0 A1 A2 A3 α : Type} (f : A0 → A1 → A2 → A3 → α) (q : A0 × A1 × A2 × A3) : α := f q.1 q.2.1 q.2.2.1 q.2.2.2
theorem un4_l {A0 A1 A2 A3 α : Type} {f : A0 → A1 → A2 → A3 → α} {a0 : A0} {a1 : A1} {a2 : A2} {a3 : A3} {x : α} (h : un4 f (a0, a1, a2, a3) = x) : f a0 a1 a2 a3 = x := h
def sm4 {A0 A1 A2 A3 T : Type} (f : A0 → A1 → A2 → A3 → Option T) : (A0 × A1 × A2 × A3) ⊕ T → Option T
  | .inl q => f q.1 q.2.1 q.2.2.1 q.2.2.2
  | .inr t => some t
theorem sm4_l {A0 A1 A2 A3 T : Type} {f : A0 → A1 → A2 → A3 → Option T} {a0 : A0} {a1 : A1} {a2 : A2} {a3 : A3} {x : Option T} (h : sm4 f (.inl (a0, a1, a2, a3)) = x) : f a0 a1 a2 a3 = x := h
theorem sm4_r {A0 A1 A2 A3 T : Type} {f : A0 → A1 → A2 → A3 → Option T} {t x : T} (h : sm4 f (.inr t) = some x) : some t = some x := h
def un5 {A0 A1 A2 A3 A4 α : Type} (f : A0 → A1 → A2 → A3 → A4 → α) (q : A0 × A1 × A2 × A3 × A4) : α := f q.1 q.2.1 q.2.2.1 q.2.2.2.1 q.2.2.2.2
theorem un5_l {A0 A1 A2 A3 A4 α : Type} {f : A0 → A1 → A2 → A3 → A4 → α} {a0 : A0} {a1 : A1} {a2 : A2} {a3 : A3} {a4 : A4} {x : α} (h : un5 f (a0, a1, a2, a3, a4) = x) : f a0 a1 a2 a3 a4 = x := h
def sm5 {A0 A1 A2 A3 A4 T : Type} (f : A0 → A1 → A2 → A3 → A4 → Option T) : (A0 × A1 × A2 × A3 × A4) ⊕ T → Option T
  | .inl q => f q.1 q.2.1 q.2.2.1 q.2.2.2.1 q.2.2.2.2
  | .inr t => some t
theorem sm5_l {A0 A1 A2 A3 A4 T : Type} {f : A0 → A1 → A2 → A3 → A4 → Option T} {a0 : A0} {a1 : A1} {a2 : A2} {a3 : A3} {a4 : A4} {x : Option T} (h : sm5 f (.inl (a0, a1, a2, a3, a4)) = x) : f a0 a1 a2 a3 a4 = x := h
theorem sm5_r {A0 A1 A2 A3 A4 T : Type} {f : A0 → A1 → A2 → A3 → A4 → Option T} {t x : T} (h : sm5 f (.inr t) = some x) : some t = some x := h
def un6 {A0 A1 A2 A3 A4 A5 α : Type} (f : A0 → A1 → A2 → A3 → A4 → A5 → α) (q : A0 × A1 × A2 × A3 × A4 × A5) : α := f q.1 q.2.1 q.2.2.1 q.2.2.2.1 q.2.2.2.2.1 q.2.2.2.2.2
theorem un6_l {A0 A1 A2 A3 A4 A5 α : Type} {f : A0 → A1 → A2 → A3 → A4 → A5 → α} {a0 : A0} {a1 : A1} {a2 : A2} {a3 : A3} {a4 : A4} {a5 : A5} {x : α} (h : un6 f (a0, a1, a2, a3, a4, a5) = x) : f a0 a1 a2 a3 a4 a5 = x := h
def sm6 {A0 A1 A2 A3 A4 A5 T : Type} (f : A0 → A1 → A2 → A3 → A4 → A5 → Option T) : (A0 × A1 × A2 × A3 × A4 × A5) ⊕ T → Option T
  | .inl q => f q.1 q.2.1 q.2.2.1 q.2.2.2.1 q.2.2.2.2.1 q.2.2.2.2.2
  | .inr t => some t
theorem sm6_l {A0 A1 A2 A3 A4 A5 T : Type} {f : A0 → A1 → A2 → A3 → A4 → A5 → Option T} {a0 : A0} {a1 : A1} {a2 : A2} {a3 : A3} {a4 : A4} {a5 : A5} {x : Option T} (h : sm6 f (.inl (a0, a1, a2, a3, a4, a5)) = x) : f a0 a1 a2 a3 a4 a5 = x := h
theorem sm6_r {A0 A1 A2 A3 A4 A5 T : Type} {f : A0 → A1 → A2 → A3 → A4 → A5 → Option T} {t x : T} (h : sm6 f (.inr t) = some x) : some t = some x := h
def un7 {A0 A1 A2 A3 A4 A5 A6 α : Type} (f : A0 → A1 → A2 → A3 → A4 → A5 → A6 → α) (q : A0 × A1 × A2 × A3 × A4 × A5 × A6) : α := f q.1 q.2.1 q.2.2.1 q.2.2.2.1 q.2.2.2.2.1 q.2.2.2.2.2.1 q.2.2.2.2.2.2
theorem un7_l {A0 A1 A2 A3 A4 A5 A6 α : Type} {f : A0 → A1 → A2 → A3 → A4 → A5 → A6 → α} {a0 : A0} {a1 : A1} {a2 : A2} {a3 : A3} {a4 : A4} {a5 : A5} {a6 : A6} {x : α} (h : un7 f (a0, a1, a2, a3, a4, a5, a6) = x) : f a0 a1 a2 a3 a4 a5 a6 = x := h
def sm7 {A0 A1 A2 A3 A4 A5 A6 T : Type} (f : A0 → A1 → A2 → A3 → A4 → A5 → A6 → Option T) : (A0 × A1 × A2 × A3 × A4 × A5 × A6) ⊕ T → Option T
  | .inl q => f q.1 q.2.1 q.2.2.1 q.2.2.2.1 q.2.2.2.2.1 q.2.2.2.2.2.1 q.2.2.2.2.2.2
  | .inr t => some t
theorem sm7_l {A0 A1 A2 A3 A4 A5 A6 T : Type} {f : A0 → A1 → A2 → A3 → A4 → A5 → A6 → Option T} {a0 : A0} {a1 : A1} {a2 : A2} {a3 : A3} {a4 : A4} {a5 : A5} {a6 : A6} {x : Option T} (h : sm7 f (.inl (a0, a1, a2, a3, a4, a5, a6)) = x) : f a0 a1 a2 a3 a4 a5 a6 = x := h
theorem sm7_r {A0 A1 A2 A3 A4 A5 A6 T : Type} {f : A0 → A1 → A2 → A3 → A4 → A5 → A6 → Option T} {t x : T} (h : sm7 f (.inr t) = some x) : some t = some x := h
def un8 {A0 A1 A2 A3 A4 A5 A6 A7 α : Type} (f : A0 → A1 → A2 → A3 → A4 → A5 → A6 → A7 → α) (q : A0 × A1 × A2 × A3 × A4 × A5 × A6 × A7) : α := f q.1 q.2.1 q.2.2.1 q.2.2.2.1 q.2.2.2.2.1 q.2.2.2.2.2.1 q.2.2.2.2.2.2.1 q.2.2.2.2.2.2.2
theorem un8_l {A0 A1 A2 A3 A4 A5 A6 A7 α : Type} {f : A0 → A1 → A2 → A3 → A4 → A5 → A6 → A7 → α} {a0 : A0} {a1 : A1} {a2 : A2} {a3 : A3} {a4 : A4} {a5 : A5} {a6 : A6} {a7 : A7} {x : α} (h : un8 f (a0, a1, a2, a3, a4, a5, a6, a7) = x) : f a0 a1 a2 a3 a4 a5 a6 a7 = x := h
def sm8 {A0 A1 A2 A3 A4 A5 A6 A7 T : Type} (f : A0 → A1 → A2 → A3 → A4 → A5 → A6 → A7 → Option T) : (A0 × A1 × A2 × A3 × A4 × A5 × A6 × A7) ⊕ T → Option T
  | .inl q => f q.1 q.2.1 q.2.2.1 q.2.2.2.1 q.2.2.2.2.1 q.2.2.2.2.2.1 q.2.2.2.2.2.2.1 q.2.2.2.2.2.2.2
  | .inr t => some t
theorem sm8_l {A0 A1 A2 A3 A4 A5 A6 A7 T : Type} {f : A0 → A1 → A2 → A3 → A4 → A5 → A6 → A7 → Option T} {a0 : A0} {a1 : A1} {a2 : A2} {a3 : A3} {a4 : A4} {a5 : A5} {a6 : A6} {a7 : A7} {x : Option T} (h : sm8 f (.inl (a0, a1, a2, a3, a4, a5, a6, a7)) = x) : f a0 a1 a2 a3 a4 a5 a6 a7 = x := h
theorem sm8_r {A0 A1 A2 A3 A4 A5 A6 A7 T : Type} {f : A0 → A1 → A2 → A3 → A4 → A5 → A6 → A7 → Option T} {t x : T} (h : sm8 f (.inr t) = some x) : some t = some x := h
end
section
theorem tw0 : Cond.selects "CalledNumbers" yX10_isRow yX10_isRow ∈ mB := lw_pos (i := 0) (by decide +kernel) (by decide +kernel)
theorem tw1 : Cond.selects "CalledNumbers" yX10_found yX10_found ∈ mB := lw_pos (i := 1) (by decide +kernel) (by decide +kernel)
theorem tw63 : Cond.initialized "CalledNumbers" ∈ mB := lw_pos (i := 63) (by decide +kernel) (by decide +kernel)
theorem tw74 : Cond.initialized "java/util/Arrays" ∈ mB := lw_pos (i := 74) (by decide +kernel) (by decide +kernel)
theorem tw232 : Cond.methodLink "CalledNumbers" 77 yJ7_fill_53178 ∈ mB := lw_pos (i := 232) (by decide +kernel) (by decide +kernel)
theorem tw233 : Cond.static yJ7_fill_53178 ∈ mB := lw_pos (i := 233) (by decide +kernel) (by decide +kernel)
theorem tw234 : Cond.code yJ7_fill_53178 cJ7_fill_53178 4 none ∈ mB := lw_pos (i := 234) (by decide +kernel) (by decide +kernel)
theorem tw235 : Cond.fieldLink "CalledNumbers" 11 "CalledNumbers" "rows" "[[I" ∈ mB := lw_pos (i := 235) (by decide +kernel) (by decide +kernel)
theorem tw236 : Cond.fieldLink "CalledNumbers" 14 "CalledNumbers" "rowSizes" "[I" ∈ mB := lw_pos (i := 236) (by decide +kernel) (by decide +kernel)
theorem tw251 : Cond.fieldLink "CalledNumbers" 304 "CalledNumbers" "finding" "I" ∈ mB := lw_pos (i := 251) (by decide +kernel) (by decide +kernel)
theorem tw252 : Cond.fieldLink "CalledNumbers" 74 "CalledNumbers" "findings" "[I" ∈ mB := lw_pos (i := 252) (by decide +kernel) (by decide +kernel)
theorem tw294 : Cond.methodLink "CalledNumbers" 87 yX10_isRow ∈ mB := lw_pos (i := 294) (by decide +kernel) (by decide +kernel)
theorem tw296 : Cond.instanceMethod yX10_isRow ∈ mB := lw_pos (i := 296) (by decide +kernel) (by decide +kernel)
theorem tw297 : Cond.code yX10_isRow cX10_isRow 2 (some .boolean) ∈ mB := lw_pos (i := 297) (by decide +kernel) (by decide +kernel)
theorem tw298 : Cond.methodLink "CalledNumbers" 91 yX10_found ∈ mB := lw_pos (i := 298) (by decide +kernel) (by decide +kernel)
theorem tw300 : Cond.instanceMethod yX10_found ∈ mB := lw_pos (i := 300) (by decide +kernel) (by decide +kernel)
theorem tw301 : Cond.code yX10_found cX10_found 2 (some .int) ∈ mB := lw_pos (i := 301) (by decide +kernel) (by decide +kernel)
theorem inBX10 : ∀ w ∈ u_ws RX10 TX10 18, w ∈ mB := mB_ps [253, 255, 257, 259, 261, 263, 265, 267, 269, 271, 273, 275, 277, 279, 281, 283, 285, 287] (by decide +kernel) (by decide +kernel)
theorem hy_J7_fill_53178 : yJ7_fill_53178.cls ≠ "java/lang/invoke/MethodHandle" ∧ yJ7_fill_53178.cls ≠ "java/lang/invoke/VarHandle" ∧ (parseMethodDescriptor yJ7_fill_53178.desc).map (fun d => d.parameters.length) = some 2 := by decide +kernel
theorem hy_X10_found : yX10_found.cls = RX10 ∧ yX10_found.cls ≠ "java/lang/invoke/MethodHandle" ∧ yX10_found.cls ≠ "java/lang/invoke/VarHandle" ∧ (parseMethodDescriptor yX10_found.desc).map (fun d => d.parameters.length) = some 1 := by decide +kernel
theorem hy_X10_isRow : yX10_isRow.cls = RX10 ∧ yX10_isRow.cls ≠ "java/lang/invoke/MethodHandle" ∧ yX10_isRow.cls ≠ "java/lang/invoke/VarHandle" ∧ (parseMethodDescriptor yX10_isRow.desc).map (fun d => d.parameters.length) = some 1 := by decide +kernel
end
section
def X10_found (σ : mS) (a1 : Int32) : Option (Int32 × mS) :=
  if vin a1 6 = true then
    if vin a1 6 = true then
      some ((-3), mwI (mwI σ 0 16 a1) 208 a1.toNatClampNeg (((mwI σ 0 16 a1).1 208 a1.toNatClampNeg) + 1))
    else none
  else none
def X10_isRow (a1 : Int32) : Int32 :=
  if a1 < 0 then
    0
  else
    if 6 ≤ a1 then
      0
    else
      1
def J7_fill_53178_b5 (k : Nat) (z : Nat) (a2 : Int32) (s1 : mS) (x2 : Int32) : Option ((mS × Int32) ⊕ (mS)) :=
  if (Int32.ofNat z) ≤ x2 then
    some (.inr s1)
  else
    if vin x2 z = true then
      some (.inl (mwI s1 k x2.toNatClampNeg a2, (x2 + 1)))
    else none
def J7_fill_53178 (σ : mS) (k : Nat) (z : Nat) (a2 : Int32) : Option (Unit × mS) :=
  (lp big (un2 (J7_fill_53178_b5 k z a2)) (σ, 0)).bind (un1 (fun s3 =>
    some ((), s3)))
def X10_row (σ : mS) (a1 : Int32) (a2 : Int32) : Option (Int32 × mS) :=
  if (X10_isRow a1) = 0 then
    some ((-1), σ)
  else
    if a2 ≤ 40 then
      if 0 ≤ a2 then
        if vin a1 6 = true then
          bd (J7_fill_53178 σ (16 + a1.toNatClampNeg) 40 (0)) (fun r6 s8 =>
            if vin a1 6 = true then
              some (a2, mwI s8 24 a1.toNatClampNeg a2)
            else none)
        else none
      else
        bd (X10_found σ (5)) (fun r10 s12 =>
          some (r10, s12))
    else
      some ((-1), σ)
end
section
set_option maxHeartbeats 4000000 in
set_option maxRecDepth 100000 in
theorem c_X10_found {l : Launch} {D : va_G} {ad : Nat → Nat} {cy : Nat → ClassId} (hJ : mJ LX ad) {σ τ : mS} {a1 : Int32} {r : Int32}  (h0 : X10_found σ a1 = some (r, τ)) : MetG l LX D ad cy yX10_found cX10_found 2 (some .int) 0 [.ref (ad 0), .int a1] σ (some (.int r)) τ := by
  refine MetG.of hJ (by decide +kernel) [(0, .ref (ad 0)), (1, .int a1)] rfl (Nat.le_of_ble_eq_true rfl) ?_
  intro K e1 e2 e3 e4 e5 C R
  subst e1
  subst e2
  subst e3
  subst e4
  unfold X10_found at h0
  refine x_aload_n C 0 dX10_found_0 rfl ?_
  refine x_iload_n C 1 dX10_found_1 rfl ?_
  refine x_putI (j := 16) (i := 304) (q := (RX10, TX10, 18)) C tyX10 tyX10_ok nmX10 (iX 0 (by decide)) rfl rfl inBX10 (by decide) tw251 rfl (by decide +kernel) rfl dX10_found_2 ?_
  refine x_aload_n C 0 dX10_found_5 rfl ?_
  refine x_getR (j := 17) (i := 74) (q := (RX10, TX10, 18)) C 208 (iX 0 (by decide)) rfl rfl inBX10 (by decide) tw252 rfl dX10_found_6 ?_
  refine x_iload_n C 1 dX10_found_9 rfl ?_
  refine x_dup2 C dX10_found_10 rfl rfl ?_
  obtain ⟨c1, h0⟩ := ob_if h0
  refine x_iald C (iX 208 (by decide)) rfl (vin_in c1) dX10_found_11 ?_
  refine x_iconst (v := 1) C dX10_found_12 rfl ?_
  refine x_iadd C dX10_found_13 ?_
  obtain ⟨c2, h0⟩ := ob_if h0
  refine x_iast C (iX 208 (by decide)) rfl (vin_in c2) dX10_found_14 ?_
  refine x_bipush (v := (-3)) C dX10_found_15 rfl ?_
  cases h0
  exact x_iret C R dX10_found_17
set_option maxHeartbeats 4000000 in
set_option maxRecDepth 100000 in
theorem c_X10_isRow {l : Launch} {D : va_G} {ad : Nat → Nat} {cy : Nat → ClassId} (hJ : mJ LX ad) {σ : mS} {a1 : Int32} {r : Int32}  (h0 : X10_isRow a1 = r) : MetG l LX D ad cy yX10_isRow cX10_isRow 2 (some .boolean) 0 [.ref (ad 0), .int a1] σ (some (.int r)) σ := by
  refine MetG.of hJ (by decide +kernel) [(0, .ref (ad 0)), (1, .int a1)] rfl (Nat.le_of_ble_eq_true rfl) ?_
  intro K e1 e2 e3 e4 e5 C R
  subst e1
  subst e2
  subst e3
  subst e4
  unfold X10_isRow at h0
  refine x_iload_n C 1 dX10_isRow_0 rfl ?_
  refine x_iflt C 14 dX10_isRow_1 (by decide) (fun c1 => ?_) (fun c1 => ?_)
  · replace h0 := ob_pos c1 h0
    refine x_iconst (v := 0) C dX10_isRow_14 rfl ?_
    subst h0
    exact x_zret C (Or.inl rfl) R dX10_isRow_15
  · replace h0 := ob_neg c1 h0
    refine x_iload_n C 1 dX10_isRow_4 rfl ?_
    refine x_bipush (v := 6) C dX10_isRow_5 rfl ?_
    refine x_icmpge C 14 dX10_isRow_7 (by decide) (fun c2 => ?_) (fun c2 => ?_)
    · replace h0 := ob_pos c2 h0
      refine x_iconst (v := 0) C dX10_isRow_14 rfl ?_
      subst h0
      exact x_zret C (Or.inl rfl) R dX10_isRow_15
    · replace h0 := ob_neg c2 h0
      refine x_iconst (v := 1) C dX10_isRow_10 rfl ?_
      refine x_goto C 15 dX10_isRow_11 (by decide) ?_
      subst h0
      exact x_zret C (Or.inr rfl) R dX10_isRow_15
set_option maxHeartbeats 4000000 in
set_option maxRecDepth 100000 in
theorem c_J7_fill_53178 {l : Launch} {Y : mY} {D : va_G} {ad : Nat → Nat} {cy : Nat → ClassId} (hJ : mJ Y ad) {σ τ : mS} {k : Nat} {z : Nat} {a2 : Int32} {r : Unit} (hk : k ∈ Y.1) (hd : Y.2 k = .inr (.inl (0, z))) (h0 : J7_fill_53178 σ k z a2 = some (r, τ)) : MetG l Y D ad cy yJ7_fill_53178 cJ7_fill_53178 4 none 0 [.ref (ad k), .int a2] σ (none) τ := by
  refine MetG.of hJ (by decide +kernel) [(0, .ref (ad k)), (1, .int a2)] rfl (Nat.le_of_ble_eq_true rfl) ?_
  intro K e1 e2 e3 e4 e5 C R
  subst e1
  subst e2
  subst e3
  subst e4
  unfold J7_fill_53178 at h0
  refine x_iconst (v := 0) C dJ7_fill_53178_0 rfl ?_
  refine x_istore_n (lv' := [(2, .int 0), (0, .ref (kad K k)), (1, .int a2)]) C dJ7_fill_53178_1 (by rw [e5]; decide) rfl ?_
  refine x_aload_n C 1 dJ7_fill_53178_2 rfl ?_
  refine x_alen (b := 0) C hk hd rfl rfl dJ7_fill_53178_3 ?_
  refine x_istore_n (lv' := [(3, .int (Int32.ofNat z)), (2, .int 0), (0, .ref (kad K k)), (1, .int a2)]) C dJ7_fill_53178_4 (by rw [e5]; decide) rfl ?_
  obtain ⟨e6, g7, h0⟩ := ob_bind h0
  have J1 : ∀ (s3 : mS), s3 = e6 → Wx Y K s3 20 [] [] := by
    intro s3 e9
    subst e9
    replace h0 := un1_l h0
    cases h0
    exact x_vret C R dJ7_fill_53178_20
  refine lp_G (G := fun q : mS × Int32 => Wx Y K q.1 5 [(3, .int (Int32.ofNat z)), (2, .int q.2), (0, .ref (kad K k)), (1, .int a2)] []) (fun q x h1 ihL1 ihR1 => ?_) big _ g7
  obtain ⟨s1, x2⟩ := q
  replace h1 : J7_fill_53178_b5 k z a2 s1 x2 = some x := h1
  unfold J7_fill_53178_b5 at h1
  show Wx Y K s1 5 [(3, .int (Int32.ofNat z)), (2, .int x2), (0, .ref (kad K k)), (1, .int a2)] []
  refine x_iload_n C 1 dJ7_fill_53178_5 rfl ?_
  refine x_iload_n C 0 dJ7_fill_53178_6 rfl ?_
  refine x_icmpge C 20 dJ7_fill_53178_7 (by decide) (fun c4 => ?_) (fun c4 => ?_)
  · replace h1 := ob_pos c4 h1
    refine x_lv (lv' := []) [] rfl ?_
    exact J1 _ (ihR1 _ (Option.some.inj h1).symm)
  · replace h1 := ob_neg c4 h1
    refine x_aload_n C 2 dJ7_fill_53178_10 rfl ?_
    refine x_iload_n C 1 dJ7_fill_53178_11 rfl ?_
    refine x_iload_n C 3 dJ7_fill_53178_12 rfl ?_
    obtain ⟨c5, h1⟩ := ob_if h1
    refine x_iast C hk hd (vin_in c5) dJ7_fill_53178_13 ?_
    refine x_iinc (v := (x2 + 1)) (lv' := [(2, .int (x2 + 1)), (3, .int (Int32.ofNat z)), (0, .ref (kad K k)), (1, .int a2)]) C 1 dJ7_fill_53178_14 rfl rfl (by rw [e5]; decide) rfl ?_
    refine x_goto C 5 dJ7_fill_53178_17 (by decide) ?_
    refine x_lv (lv' := [(3, .int (Int32.ofNat z)), (2, .int (x2 + 1)), (0, .ref (kad K k)), (1, .int a2)]) [1, 0, 2, 3] rfl ?_
    exact ihL1 _ (Option.some.inj h1).symm
set_option maxHeartbeats 4000000 in
set_option maxRecDepth 100000 in
theorem c_X10_row {l : Launch} {D : va_G} {ad : Nat → Nat} {cy : Nat → ClassId} (hJ : mJ LX ad) {σ τ : mS} {a1 : Int32} {a2 : Int32} {r : Int32}  (h0 : X10_row σ a1 a2 = some (r, τ)) : MetG l LX D ad cy yX10_row cX10_row 3 (some .int) 1 [.ref (ad 0), .int a1, .int a2] σ (some (.int r)) τ := by
  refine MetG.of hJ (by decide +kernel) [(0, .ref (ad 0)), (1, .int a1), (2, .int a2)] rfl (Nat.le_of_ble_eq_true rfl) ?_
  intro K e1 e2 e3 e4 e5 C R
  subst e1
  subst e2
  subst e3
  subst e4
  unfold X10_row at h0
  refine x_aload_n C 0 dX10_row_0 rfl ?_
  refine x_iload_n C 1 dX10_row_1 rfl ?_
  refine x_callV (ar := 1) (q := (RX10, TX10, 18)) (rest := []) C (c_X10_isRow C.2.2.2.2.2.2.1  rfl) (iX 0 (by decide)) rfl rfl hy_X10_isRow ⟨tw294, tw296, tw0, tw63, tw297⟩ (by decide) (by decide) rfl rfl (Nat.le_of_ble_eq_true rfl) dX10_row_2 ?_
  show Wx LX K σ 5 [(0, .ref (kad K 0)), (1, .int a1), (2, .int a2)] [.int (X10_isRow a1)]
  refine x_ifeq C 14 dX10_row_5 (by decide) (fun c2 => ?_) (fun c2 => ?_)
  · replace h0 := ob_pos c2 h0
    refine x_iconst (v := (-1)) C dX10_row_14 rfl ?_
    cases h0
    exact x_iret C R dX10_row_15
  · replace h0 := ob_neg c2 h0
    refine x_iload_n C 2 dX10_row_8 rfl ?_
    refine x_bipush (v := 40) C dX10_row_9 rfl ?_
    refine x_icmple C 16 dX10_row_11 (by decide) (fun c3 => ?_) (fun c3 => ?_)
    · replace h0 := ob_pos c3 h0
      refine x_iload_n C 2 dX10_row_16 rfl ?_
      refine x_ifge C 26 dX10_row_17 (by decide) (fun c4 => ?_) (fun c4 => ?_)
      · replace h0 := ob_pos c4 h0
        refine x_aload_n C 0 dX10_row_26 rfl ?_
        refine x_getR (j := 0) (i := 11) (q := (RX10, TX10, 18)) C 8 (iX 0 (by decide)) rfl rfl inBX10 (by decide) tw235 rfl dX10_row_27 ?_
        refine x_iload_n C 1 dX10_row_30 rfl ?_
        obtain ⟨c5, h0⟩ := ob_if h0
        refine x_aald C (iX 8 (by decide)) rfl rfl rfl (vin_in c5) dX10_row_31 ?_
        refine x_iconst (v := 0) C dX10_row_32 rfl ?_
        obtain ⟨r6, s8, g7, h0⟩ := ob_bd h0
        refine x_callS (ar := 2) (rest := []) C (c_J7_fill_53178 C.2.2.2.2.2.2.1 (iX2 (vin_lt c5)) (lX2 (vin_lt c5)) g7) hy_J7_fill_53178 ⟨tw232, tw233, tw74, tw234⟩ (by decide) (by decide) rfl rfl (Nat.le_of_ble_eq_true rfl) dX10_row_33 ?_
        show Wx LX K s8 36 [(0, .ref (kad K 0)), (1, .int a1), (2, .int a2)] []
        refine x_aload_n C 0 dX10_row_36 rfl ?_
        refine x_getR (j := 1) (i := 14) (q := (RX10, TX10, 18)) C 24 (iX 0 (by decide)) rfl rfl inBX10 (by decide) tw236 rfl dX10_row_37 ?_
        refine x_iload_n C 1 dX10_row_40 rfl ?_
        refine x_iload_n C 2 dX10_row_41 rfl ?_
        obtain ⟨c9, h0⟩ := ob_if h0
        refine x_iast C (iX 24 (by decide)) rfl (vin_in c9) dX10_row_42 ?_
        refine x_iload_n C 2 dX10_row_43 rfl ?_
        cases h0
        exact x_iret C R dX10_row_44
      · replace h0 := ob_neg c4 h0
        refine x_aload_n C 0 dX10_row_20 rfl ?_
        refine x_iconst (v := 5) C dX10_row_21 rfl ?_
        obtain ⟨r10, s12, g11, h0⟩ := ob_bd h0
        refine x_callV (ar := 1) (q := (RX10, TX10, 18)) (rest := []) C (c_X10_found C.2.2.2.2.2.2.1  g11) (iX 0 (by decide)) rfl rfl hy_X10_found ⟨tw298, tw300, tw1, tw63, tw301⟩ (by decide) (by decide) rfl rfl (Nat.le_of_ble_eq_true rfl) dX10_row_22 ?_
        show Wx LX K s12 25 [(0, .ref (kad K 0)), (1, .int a1), (2, .int a2)] [.int r10]
        cases h0
        exact x_iret C R dX10_row_25
    · replace h0 := ob_neg c3 h0
      refine x_iconst (v := (-1)) C dX10_row_14 rfl ?_
      cases h0
      exact x_iret C R dX10_row_15
end
