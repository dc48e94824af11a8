-- ===== PART A: goes FIRST, ahead of the names: the tables' words, and 'selects' of the private methods out of them =====
/-- a private method of a class that the tables say can be made, by its rows of tables_1 -/
def lw_okq (q : MethodName × Nat) : Prop := (q.1.cls ≠ "java/lang/invoke/MethodHandle" ∧ q.1.cls ≠ "java/lang/invoke/VarHandle") ∧ Cond.instantiable q.1.cls q.2 ∈ tables_1 ∧ Cond.privateMethod q.1 ∈ tables_1 ∧ Cond.instanceMethod q.1 ∈ tables_1
theorem lw_p0 : lw_okq (⟨"HotAtSeven", "found", "(I)I"⟩, 17) := ⟨⟨by decide +kernel, by decide +kernel⟩, List.mem_of_getElem? (i := 23) (by decide +kernel), List.mem_of_getElem? (i := 532) (by decide +kernel), List.mem_of_getElem? (i := 533) (by decide +kernel)⟩
theorem lw_p1 : lw_okq (⟨"HotAtSeven", "fine", "(I)I"⟩, 17) := ⟨⟨by decide +kernel, by decide +kernel⟩, List.mem_of_getElem? (i := 23) (by decide +kernel), List.mem_of_getElem? (i := 541) (by decide +kernel), List.mem_of_getElem? (i := 542) (by decide +kernel)⟩
theorem lw_p2 : lw_okq (⟨"HotAtSeven$Reader", "advance", "()V"⟩, 7) := ⟨⟨by decide +kernel, by decide +kernel⟩, List.mem_of_getElem? (i := 55) (by decide +kernel), List.mem_of_getElem? (i := 601) (by decide +kernel), List.mem_of_getElem? (i := 602) (by decide +kernel)⟩
theorem lw_p3 : lw_okq (⟨"HotAtSeven$Reader", "takeFigures", "()V"⟩, 7) := ⟨⟨by decide +kernel, by decide +kernel⟩, List.mem_of_getElem? (i := 55) (by decide +kernel), List.mem_of_getElem? (i := 605) (by decide +kernel), List.mem_of_getElem? (i := 606) (by decide +kernel)⟩
theorem lw_p4 : lw_okq (⟨"HotAtSeven$Reader", "readKitchen", "(LHotAtSeven$Book;)V"⟩, 7) := ⟨⟨by decide +kernel, by decide +kernel⟩, List.mem_of_getElem? (i := 55) (by decide +kernel), List.mem_of_getElem? (i := 609) (by decide +kernel), List.mem_of_getElem? (i := 610) (by decide +kernel)⟩
theorem lw_p5 : lw_okq (⟨"HotAtSeven$Reader", "takeWord", "(Ljava/lang/String;)V"⟩, 7) := ⟨⟨by decide +kernel, by decide +kernel⟩, List.mem_of_getElem? (i := 55) (by decide +kernel), List.mem_of_getElem? (i := 614) (by decide +kernel), List.mem_of_getElem? (i := 615) (by decide +kernel)⟩
theorem lw_p6 : lw_okq (⟨"HotAtSeven$Reader", "isWord", "(Ljava/lang/String;)Z"⟩, 7) := ⟨⟨by decide +kernel, by decide +kernel⟩, List.mem_of_getElem? (i := 55) (by decide +kernel), List.mem_of_getElem? (i := 618) (by decide +kernel), List.mem_of_getElem? (i := 619) (by decide +kernel)⟩
theorem lw_p7 : lw_okq (⟨"HotAtSeven$Reader", "takeNumber", "(II)I"⟩, 7) := ⟨⟨by decide +kernel, by decide +kernel⟩, List.mem_of_getElem? (i := 55) (by decide +kernel), List.mem_of_getElem? (i := 674) (by decide +kernel), List.mem_of_getElem? (i := 675) (by decide +kernel)⟩
theorem lw_p8 : lw_okq (⟨"HotAtSeven$Reader", "takeSign", "()V"⟩, 7) := ⟨⟨by decide +kernel, by decide +kernel⟩, List.mem_of_getElem? (i := 55) (by decide +kernel), List.mem_of_getElem? (i := 678) (by decide +kernel), List.mem_of_getElem? (i := 679) (by decide +kernel)⟩
theorem lw_p9 : lw_okq (⟨"HotAtSeven$Reader", "readAway", "(LHotAtSeven$Book;)V"⟩, 7) := ⟨⟨by decide +kernel, by decide +kernel⟩, List.mem_of_getElem? (i := 55) (by decide +kernel), List.mem_of_getElem? (i := 683) (by decide +kernel), List.mem_of_getElem? (i := 684) (by decide +kernel)⟩
theorem lw_p10 : lw_okq (⟨"HotAtSeven$Reader", "readDish", "(LHotAtSeven$Book;)V"⟩, 7) := ⟨⟨by decide +kernel, by decide +kernel⟩, List.mem_of_getElem? (i := 55) (by decide +kernel), List.mem_of_getElem? (i := 687) (by decide +kernel), List.mem_of_getElem? (i := 688) (by decide +kernel)⟩
theorem lw_p11 : lw_okq (⟨"HotAtSeven$Reader", "readSteps", "(LHotAtSeven$Book;)V"⟩, 7) := ⟨⟨by decide +kernel, by decide +kernel⟩, List.mem_of_getElem? (i := 55) (by decide +kernel), List.mem_of_getElem? (i := 692) (by decide +kernel), List.mem_of_getElem? (i := 693) (by decide +kernel)⟩
theorem lw_p12 : lw_okq (⟨"HotAtSeven$Reader", "stepWord", "()I"⟩, 7) := ⟨⟨by decide +kernel, by decide +kernel⟩, List.mem_of_getElem? (i := 55) (by decide +kernel), List.mem_of_getElem? (i := 696) (by decide +kernel), List.mem_of_getElem? (i := 697) (by decide +kernel)⟩
theorem lw_p13 : lw_okq (⟨"HotAtSeven$Reader", "readStep", "(LHotAtSeven$Book;II)V"⟩, 7) := ⟨⟨by decide +kernel, by decide +kernel⟩, List.mem_of_getElem? (i := 55) (by decide +kernel), List.mem_of_getElem? (i := 705) (by decide +kernel), List.mem_of_getElem? (i := 706) (by decide +kernel)⟩
theorem lw_p14 : lw_okq (⟨"HotAtSeven", "changed", "()V"⟩, 17) := ⟨⟨by decide +kernel, by decide +kernel⟩, List.mem_of_getElem? (i := 23) (by decide +kernel), List.mem_of_getElem? (i := 711) (by decide +kernel), List.mem_of_getElem? (i := 712) (by decide +kernel)⟩
theorem lw_p15 : lw_okq (⟨"HotAtSeven$Kitchen", "give", "(II)V"⟩, 1) := ⟨⟨by decide +kernel, by decide +kernel⟩, List.mem_of_getElem? (i := 214) (by decide +kernel), List.mem_of_getElem? (i := 723) (by decide +kernel), List.mem_of_getElem? (i := 724) (by decide +kernel)⟩
def lw_privs_1 : List (MethodName × Nat) := [(⟨"HotAtSeven", "found", "(I)I"⟩, 17), (⟨"HotAtSeven", "fine", "(I)I"⟩, 17), (⟨"HotAtSeven$Reader", "advance", "()V"⟩, 7), (⟨"HotAtSeven$Reader", "takeFigures", "()V"⟩, 7), (⟨"HotAtSeven$Reader", "readKitchen", "(LHotAtSeven$Book;)V"⟩, 7), (⟨"HotAtSeven$Reader", "takeWord", "(Ljava/lang/String;)V"⟩, 7), (⟨"HotAtSeven$Reader", "isWord", "(Ljava/lang/String;)Z"⟩, 7), (⟨"HotAtSeven$Reader", "takeNumber", "(II)I"⟩, 7), (⟨"HotAtSeven$Reader", "takeSign", "()V"⟩, 7), (⟨"HotAtSeven$Reader", "readAway", "(LHotAtSeven$Book;)V"⟩, 7), (⟨"HotAtSeven$Reader", "readDish", "(LHotAtSeven$Book;)V"⟩, 7), (⟨"HotAtSeven$Reader", "readSteps", "(LHotAtSeven$Book;)V"⟩, 7), (⟨"HotAtSeven$Reader", "stepWord", "()I"⟩, 7), (⟨"HotAtSeven$Reader", "readStep", "(LHotAtSeven$Book;II)V"⟩, 7), (⟨"HotAtSeven", "changed", "()V"⟩, 17), (⟨"HotAtSeven$Kitchen", "give", "(II)V"⟩, 1)]
theorem lw_r1 : ∀ q ∈ lw_privs_1, lw_okq q := List.forall_mem_cons.mpr ⟨lw_p0, List.forall_mem_cons.mpr ⟨lw_p1, List.forall_mem_cons.mpr ⟨lw_p2, List.forall_mem_cons.mpr ⟨lw_p3, List.forall_mem_cons.mpr ⟨lw_p4, List.forall_mem_cons.mpr ⟨lw_p5, List.forall_mem_cons.mpr ⟨lw_p6, List.forall_mem_cons.mpr ⟨lw_p7, List.forall_mem_cons.mpr ⟨lw_p8, List.forall_mem_cons.mpr ⟨lw_p9, List.forall_mem_cons.mpr ⟨lw_p10, List.forall_mem_cons.mpr ⟨lw_p11, List.forall_mem_cons.mpr ⟨lw_p12, List.forall_mem_cons.mpr ⟨lw_p13, List.forall_mem_cons.mpr ⟨lw_p14, List.forall_mem_cons.mpr ⟨lw_p15, fun _ h => absurd h List.not_mem_nil⟩⟩⟩⟩⟩⟩⟩⟩⟩⟩⟩⟩⟩⟩⟩⟩
theorem lw_p16 : lw_okq (⟨"HotAtSeven$Kitchen", "giveOneLess", "(IJ)V"⟩, 1) := ⟨⟨by decide +kernel, by decide +kernel⟩, List.mem_of_getElem? (i := 214) (by decide +kernel), List.mem_of_getElem? (i := 731) (by decide +kernel), List.mem_of_getElem? (i := 732) (by decide +kernel)⟩
theorem lw_p17 : lw_okq (⟨"HotAtSeven$Book", "awayAt", "(I)I"⟩, 19) := ⟨⟨by decide +kernel, by decide +kernel⟩, List.mem_of_getElem? (i := 87) (by decide +kernel), List.mem_of_getElem? (i := 772) (by decide +kernel), List.mem_of_getElem? (i := 773) (by decide +kernel)⟩
theorem lw_p18 : lw_okq (⟨"HotAtSeven", "refusal", "(Z)I"⟩, 17) := ⟨⟨by decide +kernel, by decide +kernel⟩, List.mem_of_getElem? (i := 23) (by decide +kernel), List.mem_of_getElem? (i := 804) (by decide +kernel), List.mem_of_getElem? (i := 805) (by decide +kernel)⟩
theorem lw_p19 : lw_okq (⟨"HotAtSeven$Row", "fillDish", "(LHotAtSeven$Book;I)V"⟩, 8) := ⟨⟨by decide +kernel, by decide +kernel⟩, List.mem_of_getElem? (i := 417) (by decide +kernel), List.mem_of_getElem? (i := 812) (by decide +kernel), List.mem_of_getElem? (i := 813) (by decide +kernel)⟩
theorem lw_p20 : lw_okq (⟨"HotAtSeven$Judge", "followsInTime", "(LHotAtSeven$Book;LHotAtSeven$Row;I)Z"⟩, 4) := ⟨⟨by decide +kernel, by decide +kernel⟩, List.mem_of_getElem? (i := 361) (by decide +kernel), List.mem_of_getElem? (i := 824) (by decide +kernel), List.mem_of_getElem? (i := 825) (by decide +kernel)⟩
theorem lw_p21 : lw_okq (⟨"HotAtSeven$Judge", "firstLack", "(LHotAtSeven$Book;LHotAtSeven$Kitchen;LHotAtSeven$Row;)I"⟩, 4) := ⟨⟨by decide +kernel, by decide +kernel⟩, List.mem_of_getElem? (i := 361) (by decide +kernel), List.mem_of_getElem? (i := 832) (by decide +kernel), List.mem_of_getElem? (i := 833) (by decide +kernel)⟩
theorem lw_p22 : lw_okq (⟨"HotAtSeven$Judge", "lackAt", "(JZ)I"⟩, 4) := ⟨⟨by decide +kernel, by decide +kernel⟩, List.mem_of_getElem? (i := 361) (by decide +kernel), List.mem_of_getElem? (i := 874) (by decide +kernel), List.mem_of_getElem? (i := 875) (by decide +kernel)⟩
theorem lw_p23 : lw_okq (⟨"HotAtSeven", "findsPlan", "(I)Z"⟩, 17) := ⟨⟨by decide +kernel, by decide +kernel⟩, List.mem_of_getElem? (i := 23) (by decide +kernel), List.mem_of_getElem? (i := 882) (by decide +kernel), List.mem_of_getElem? (i := 883) (by decide +kernel)⟩
theorem lw_p24 : lw_okq (⟨"HotAtSeven$Planner", "layDish", "(II)V"⟩, 20) := ⟨⟨by decide +kernel, by decide +kernel⟩, List.mem_of_getElem? (i := 225) (by decide +kernel), List.mem_of_getElem? (i := 891) (by decide +kernel), List.mem_of_getElem? (i := 892) (by decide +kernel)⟩
theorem lw_p25 : lw_okq (⟨"HotAtSeven$Way", "isWarmed", "(LHotAtSeven$Book;)Z"⟩, 7) := ⟨⟨by decide +kernel, by decide +kernel⟩, List.mem_of_getElem? (i := 241) (by decide +kernel), List.mem_of_getElem? (i := 900) (by decide +kernel), List.mem_of_getElem? (i := 901) (by decide +kernel)⟩
theorem lw_p26 : lw_okq (⟨"HotAtSeven$Planner", "settleDish", "(I)V"⟩, 20) := ⟨⟨by decide +kernel, by decide +kernel⟩, List.mem_of_getElem? (i := 225) (by decide +kernel), List.mem_of_getElem? (i := 925) (by decide +kernel), List.mem_of_getElem? (i := 926) (by decide +kernel)⟩
theorem lw_p27 : lw_okq (⟨"HotAtSeven$Planner", "seatAll", "(I)Z"⟩, 20) := ⟨⟨by decide +kernel, by decide +kernel⟩, List.mem_of_getElem? (i := 225) (by decide +kernel), List.mem_of_getElem? (i := 939) (by decide +kernel), List.mem_of_getElem? (i := 940) (by decide +kernel)⟩
theorem lw_p28 : lw_okq (⟨"HotAtSeven$Planner", "choicesThatCan", "(I)I"⟩, 20) := ⟨⟨by decide +kernel, by decide +kernel⟩, List.mem_of_getElem? (i := 225) (by decide +kernel), List.mem_of_getElem? (i := 943) (by decide +kernel), List.mem_of_getElem? (i := 944) (by decide +kernel)⟩
theorem lw_p29 : lw_okq (⟨"HotAtSeven$Planner", "seek", "(II)V"⟩, 20) := ⟨⟨by decide +kernel, by decide +kernel⟩, List.mem_of_getElem? (i := 225) (by decide +kernel), List.mem_of_getElem? (i := 948) (by decide +kernel), List.mem_of_getElem? (i := 949) (by decide +kernel)⟩
theorem lw_p30 : lw_okq (⟨"HotAtSeven$Planner", "keepPicked", "(I)V"⟩, 20) := ⟨⟨by decide +kernel, by decide +kernel⟩, List.mem_of_getElem? (i := 225) (by decide +kernel), List.mem_of_getElem? (i := 952) (by decide +kernel), List.mem_of_getElem? (i := 953) (by decide +kernel)⟩
theorem lw_p31 : lw_okq (⟨"HotAtSeven$Planner", "leavesOpen", "(II)Z"⟩, 20) := ⟨⟨by decide +kernel, by decide +kernel⟩, List.mem_of_getElem? (i := 225) (by decide +kernel), List.mem_of_getElem? (i := 957) (by decide +kernel), List.mem_of_getElem? (i := 958) (by decide +kernel)⟩
def lw_privs_2 : List (MethodName × Nat) := [(⟨"HotAtSeven$Kitchen", "giveOneLess", "(IJ)V"⟩, 1), (⟨"HotAtSeven$Book", "awayAt", "(I)I"⟩, 19), (⟨"HotAtSeven", "refusal", "(Z)I"⟩, 17), (⟨"HotAtSeven$Row", "fillDish", "(LHotAtSeven$Book;I)V"⟩, 8), (⟨"HotAtSeven$Judge", "followsInTime", "(LHotAtSeven$Book;LHotAtSeven$Row;I)Z"⟩, 4), (⟨"HotAtSeven$Judge", "firstLack", "(LHotAtSeven$Book;LHotAtSeven$Kitchen;LHotAtSeven$Row;)I"⟩, 4), (⟨"HotAtSeven$Judge", "lackAt", "(JZ)I"⟩, 4), (⟨"HotAtSeven", "findsPlan", "(I)Z"⟩, 17), (⟨"HotAtSeven$Planner", "layDish", "(II)V"⟩, 20), (⟨"HotAtSeven$Way", "isWarmed", "(LHotAtSeven$Book;)Z"⟩, 7), (⟨"HotAtSeven$Planner", "settleDish", "(I)V"⟩, 20), (⟨"HotAtSeven$Planner", "seatAll", "(I)Z"⟩, 20), (⟨"HotAtSeven$Planner", "choicesThatCan", "(I)I"⟩, 20), (⟨"HotAtSeven$Planner", "seek", "(II)V"⟩, 20), (⟨"HotAtSeven$Planner", "keepPicked", "(I)V"⟩, 20), (⟨"HotAtSeven$Planner", "leavesOpen", "(II)Z"⟩, 20)]
theorem lw_r2 : ∀ q ∈ lw_privs_2, lw_okq q := List.forall_mem_cons.mpr ⟨lw_p16, List.forall_mem_cons.mpr ⟨lw_p17, List.forall_mem_cons.mpr ⟨lw_p18, List.forall_mem_cons.mpr ⟨lw_p19, List.forall_mem_cons.mpr ⟨lw_p20, List.forall_mem_cons.mpr ⟨lw_p21, List.forall_mem_cons.mpr ⟨lw_p22, List.forall_mem_cons.mpr ⟨lw_p23, List.forall_mem_cons.mpr ⟨lw_p24, List.forall_mem_cons.mpr ⟨lw_p25, List.forall_mem_cons.mpr ⟨lw_p26, List.forall_mem_cons.mpr ⟨lw_p27, List.forall_mem_cons.mpr ⟨lw_p28, List.forall_mem_cons.mpr ⟨lw_p29, List.forall_mem_cons.mpr ⟨lw_p30, List.forall_mem_cons.mpr ⟨lw_p31, fun _ h => absurd h List.not_mem_nil⟩⟩⟩⟩⟩⟩⟩⟩⟩⟩⟩⟩⟩⟩⟩⟩
theorem lw_p32 : lw_okq (⟨"HotAtSeven$Planner", "agreeing", "(II)I"⟩, 20) := ⟨⟨by decide +kernel, by decide +kernel⟩, List.mem_of_getElem? (i := 225) (by decide +kernel), List.mem_of_getElem? (i := 961) (by decide +kernel), List.mem_of_getElem? (i := 962) (by decide +kernel)⟩
theorem lw_p33 : lw_okq (⟨"HotAtSeven$Planner", "collide", "([J[J)Z"⟩, 20) := ⟨⟨by decide +kernel, by decide +kernel⟩, List.mem_of_getElem? (i := 225) (by decide +kernel), List.mem_of_getElem? (i := 965) (by decide +kernel), List.mem_of_getElem? (i := 966) (by decide +kernel)⟩
theorem lw_p34 : lw_okq (⟨"HotAtSeven", "isPossible", "(LHotAtSeven$Kitchen;II)Z"⟩, 17) := ⟨⟨by decide +kernel, by decide +kernel⟩, List.mem_of_getElem? (i := 23) (by decide +kernel), List.mem_of_getElem? (i := 992) (by decide +kernel), List.mem_of_getElem? (i := 993) (by decide +kernel)⟩
theorem lw_p35 : lw_okq (⟨"HotAtSeven$Planner", "isBuilt", "(I)Z"⟩, 20) := ⟨⟨by decide +kernel, by decide +kernel⟩, List.mem_of_getElem? (i := 225) (by decide +kernel), List.mem_of_getElem? (i := 1026) (by decide +kernel), List.mem_of_getElem? (i := 1027) (by decide +kernel)⟩
theorem lw_p36 : lw_okq (⟨"HotAtSeven$Asker", "sizeOf", "(LHotAtSeven$Book;II)I"⟩, 2) := ⟨⟨by decide +kernel, by decide +kernel⟩, List.mem_of_getElem? (i := 402) (by decide +kernel), List.mem_of_getElem? (i := 1099) (by decide +kernel), List.mem_of_getElem? (i := 1100) (by decide +kernel)⟩
theorem lw_p37 : lw_okq (⟨"HotAtSeven$Asker", "sizeOfRinged", "(LHotAtSeven$Book;I)I"⟩, 2) := ⟨⟨by decide +kernel, by decide +kernel⟩, List.mem_of_getElem? (i := 402) (by decide +kernel), List.mem_of_getElem? (i := 1104) (by decide +kernel), List.mem_of_getElem? (i := 1105) (by decide +kernel)⟩
theorem lw_p38 : lw_okq (⟨"HotAtSeven$Asker", "begin", "(I)V"⟩, 2) := ⟨⟨by decide +kernel, by decide +kernel⟩, List.mem_of_getElem? (i := 402) (by decide +kernel), List.mem_of_getElem? (i := 1108) (by decide +kernel), List.mem_of_getElem? (i := 1109) (by decide +kernel)⟩
theorem lw_p39 : lw_okq (⟨"HotAtSeven$Asker", "sizeOfAny", "(LHotAtSeven$Book;I)I"⟩, 2) := ⟨⟨by decide +kernel, by decide +kernel⟩, List.mem_of_getElem? (i := 402) (by decide +kernel), List.mem_of_getElem? (i := 1112) (by decide +kernel), List.mem_of_getElem? (i := 1113) (by decide +kernel)⟩
theorem lw_p40 : lw_okq (⟨"HotAtSeven$Asker", "markOf", "(LHotAtSeven$Book;II)I"⟩, 2) := ⟨⟨by decide +kernel, by decide +kernel⟩, List.mem_of_getElem? (i := 402) (by decide +kernel), List.mem_of_getElem? (i := 1116) (by decide +kernel), List.mem_of_getElem? (i := 1117) (by decide +kernel)⟩
theorem lw_p41 : lw_okq (⟨"HotAtSeven$Asker", "markOfRested", "(I)I"⟩, 2) := ⟨⟨by decide +kernel, by decide +kernel⟩, List.mem_of_getElem? (i := 402) (by decide +kernel), List.mem_of_getElem? (i := 1120) (by decide +kernel), List.mem_of_getElem? (i := 1121) (by decide +kernel)⟩
theorem lw_p42 : lw_okq (⟨"HotAtSeven$Asker", "markOfAny", "(I)I"⟩, 2) := ⟨⟨by decide +kernel, by decide +kernel⟩, List.mem_of_getElem? (i := 402) (by decide +kernel), List.mem_of_getElem? (i := 1124) (by decide +kernel), List.mem_of_getElem? (i := 1125) (by decide +kernel)⟩
theorem lw_p43 : lw_okq (⟨"HotAtSevenModel", "finding", "(I)I"⟩, 49) := ⟨⟨by decide +kernel, by decide +kernel⟩, List.mem_of_getElem? (i := 1148) (by decide +kernel), List.mem_of_getElem? (i := 1315) (by decide +kernel), List.mem_of_getElem? (i := 1316) (by decide +kernel)⟩
theorem lw_p44 : lw_okq (⟨"HotAtSevenModel", "next", "()V"⟩, 49) := ⟨⟨by decide +kernel, by decide +kernel⟩, List.mem_of_getElem? (i := 1148) (by decide +kernel), List.mem_of_getElem? (i := 1343) (by decide +kernel), List.mem_of_getElem? (i := 1344) (by decide +kernel)⟩
theorem lw_p45 : lw_okq (⟨"HotAtSevenModel", "byteAt", "(I)I"⟩, 49) := ⟨⟨by decide +kernel, by decide +kernel⟩, List.mem_of_getElem? (i := 1148) (by decide +kernel), List.mem_of_getElem? (i := 1347) (by decide +kernel), List.mem_of_getElem? (i := 1348) (by decide +kernel)⟩
theorem lw_p46 : lw_okq (⟨"HotAtSevenModel", "word", "()J"⟩, 49) := ⟨⟨by decide +kernel, by decide +kernel⟩, List.mem_of_getElem? (i := 1148) (by decide +kernel), List.mem_of_getElem? (i := 1358) (by decide +kernel), List.mem_of_getElem? (i := 1359) (by decide +kernel)⟩
theorem lw_p47 : lw_okq (⟨"HotAtSevenModel", "must", "(Z)V"⟩, 49) := ⟨⟨by decide +kernel, by decide +kernel⟩, List.mem_of_getElem? (i := 1148) (by decide +kernel), List.mem_of_getElem? (i := 1363) (by decide +kernel), List.mem_of_getElem? (i := 1364) (by decide +kernel)⟩
def lw_privs_3 : List (MethodName × Nat) := [(⟨"HotAtSeven$Planner", "agreeing", "(II)I"⟩, 20), (⟨"HotAtSeven$Planner", "collide", "([J[J)Z"⟩, 20), (⟨"HotAtSeven", "isPossible", "(LHotAtSeven$Kitchen;II)Z"⟩, 17), (⟨"HotAtSeven$Planner", "isBuilt", "(I)Z"⟩, 20), (⟨"HotAtSeven$Asker", "sizeOf", "(LHotAtSeven$Book;II)I"⟩, 2), (⟨"HotAtSeven$Asker", "sizeOfRinged", "(LHotAtSeven$Book;I)I"⟩, 2), (⟨"HotAtSeven$Asker", "begin", "(I)V"⟩, 2), (⟨"HotAtSeven$Asker", "sizeOfAny", "(LHotAtSeven$Book;I)I"⟩, 2), (⟨"HotAtSeven$Asker", "markOf", "(LHotAtSeven$Book;II)I"⟩, 2), (⟨"HotAtSeven$Asker", "markOfRested", "(I)I"⟩, 2), (⟨"HotAtSeven$Asker", "markOfAny", "(I)I"⟩, 2), (⟨"HotAtSevenModel", "finding", "(I)I"⟩, 49), (⟨"HotAtSevenModel", "next", "()V"⟩, 49), (⟨"HotAtSevenModel", "byteAt", "(I)I"⟩, 49), (⟨"HotAtSevenModel", "word", "()J"⟩, 49), (⟨"HotAtSevenModel", "must", "(Z)V"⟩, 49)]
theorem lw_r3 : ∀ q ∈ lw_privs_3, lw_okq q := List.forall_mem_cons.mpr ⟨lw_p32, List.forall_mem_cons.mpr ⟨lw_p33, List.forall_mem_cons.mpr ⟨lw_p34, List.forall_mem_cons.mpr ⟨lw_p35, List.forall_mem_cons.mpr ⟨lw_p36, List.forall_mem_cons.mpr ⟨lw_p37, List.forall_mem_cons.mpr ⟨lw_p38, List.forall_mem_cons.mpr ⟨lw_p39, List.forall_mem_cons.mpr ⟨lw_p40, List.forall_mem_cons.mpr ⟨lw_p41, List.forall_mem_cons.mpr ⟨lw_p42, List.forall_mem_cons.mpr ⟨lw_p43, List.forall_mem_cons.mpr ⟨lw_p44, List.forall_mem_cons.mpr ⟨lw_p45, List.forall_mem_cons.mpr ⟨lw_p46, List.forall_mem_cons.mpr ⟨lw_p47, fun _ h => absurd h List.not_mem_nil⟩⟩⟩⟩⟩⟩⟩⟩⟩⟩⟩⟩⟩⟩⟩⟩
theorem lw_p48 : lw_okq (⟨"HotAtSevenModel", "bad", "(I)V"⟩, 49) := ⟨⟨by decide +kernel, by decide +kernel⟩, List.mem_of_getElem? (i := 1148) (by decide +kernel), List.mem_of_getElem? (i := 1367) (by decide +kernel), List.mem_of_getElem? (i := 1368) (by decide +kernel)⟩
theorem lw_p49 : lw_okq (⟨"HotAtSevenModel", "number", "(III)V"⟩, 49) := ⟨⟨by decide +kernel, by decide +kernel⟩, List.mem_of_getElem? (i := 1148) (by decide +kernel), List.mem_of_getElem? (i := 1371) (by decide +kernel), List.mem_of_getElem? (i := 1372) (by decide +kernel)⟩
theorem lw_p50 : lw_okq (⟨"HotAtSevenModel", "mustEnd", "()V"⟩, 49) := ⟨⟨by decide +kernel, by decide +kernel⟩, List.mem_of_getElem? (i := 1148) (by decide +kernel), List.mem_of_getElem? (i := 1375) (by decide +kernel), List.mem_of_getElem? (i := 1376) (by decide +kernel)⟩
theorem lw_p51 : lw_okq (⟨"HotAtSevenModel", "readAway", "()V"⟩, 49) := ⟨⟨by decide +kernel, by decide +kernel⟩, List.mem_of_getElem? (i := 1148) (by decide +kernel), List.mem_of_getElem? (i := 1380) (by decide +kernel), List.mem_of_getElem? (i := 1381) (by decide +kernel)⟩
theorem lw_p52 : lw_okq (⟨"HotAtSevenModel", "readDish", "()V"⟩, 49) := ⟨⟨by decide +kernel, by decide +kernel⟩, List.mem_of_getElem? (i := 1148) (by decide +kernel), List.mem_of_getElem? (i := 1385) (by decide +kernel), List.mem_of_getElem? (i := 1386) (by decide +kernel)⟩
theorem lw_p53 : lw_okq (⟨"HotAtSevenModel", "kindOfWord", "()I"⟩, 49) := ⟨⟨by decide +kernel, by decide +kernel⟩, List.mem_of_getElem? (i := 1148) (by decide +kernel), List.mem_of_getElem? (i := 1389) (by decide +kernel), List.mem_of_getElem? (i := 1390) (by decide +kernel)⟩
theorem lw_p54 : lw_okq (⟨"HotAtSevenModel", "readStep", "(II)V"⟩, 49) := ⟨⟨by decide +kernel, by decide +kernel⟩, List.mem_of_getElem? (i := 1148) (by decide +kernel), List.mem_of_getElem? (i := 1398) (by decide +kernel), List.mem_of_getElem? (i := 1399) (by decide +kernel)⟩
theorem lw_p55 : lw_okq (⟨"HotAtSevenModel", "forget", "()V"⟩, 49) := ⟨⟨by decide +kernel, by decide +kernel⟩, List.mem_of_getElem? (i := 1148) (by decide +kernel), List.mem_of_getElem? (i := 1403) (by decide +kernel), List.mem_of_getElem? (i := 1404) (by decide +kernel)⟩
theorem lw_p56 : lw_okq (⟨"HotAtSevenModel", "isDish", "(I)Z"⟩, 49) := ⟨⟨by decide +kernel, by decide +kernel⟩, List.mem_of_getElem? (i := 1148) (by decide +kernel), List.mem_of_getElem? (i := 1415) (by decide +kernel), List.mem_of_getElem? (i := 1416) (by decide +kernel)⟩
theorem lw_p57 : lw_okq (⟨"HotAtSevenModel", "choicesOf", "(I)I"⟩, 49) := ⟨⟨by decide +kernel, by decide +kernel⟩, List.mem_of_getElem? (i := 1148) (by decide +kernel), List.mem_of_getElem? (i := 1420) (by decide +kernel), List.mem_of_getElem? (i := 1421) (by decide +kernel)⟩
theorem lw_p58 : lw_okq (⟨"HotAtSevenModel", "dishOf", "(II)I"⟩, 49) := ⟨⟨by decide +kernel, by decide +kernel⟩, List.mem_of_getElem? (i := 1148) (by decide +kernel), List.mem_of_getElem? (i := 1424) (by decide +kernel), List.mem_of_getElem? (i := 1425) (by decide +kernel)⟩
theorem lw_p59 : lw_okq (⟨"HotAtSevenModel", "waitsOf", "(II)I"⟩, 49) := ⟨⟨by decide +kernel, by decide +kernel⟩, List.mem_of_getElem? (i := 1148) (by decide +kernel), List.mem_of_getElem? (i := 1428) (by decide +kernel), List.mem_of_getElem? (i := 1429) (by decide +kernel)⟩
theorem lw_p60 : lw_okq (⟨"HotAtSevenModel", "stepOf", "(II)I"⟩, 49) := ⟨⟨by decide +kernel, by decide +kernel⟩, List.mem_of_getElem? (i := 1148) (by decide +kernel), List.mem_of_getElem? (i := 1432) (by decide +kernel), List.mem_of_getElem? (i := 1433) (by decide +kernel)⟩
theorem lw_p61 : lw_okq (⟨"HotAtSevenModel", "isStep", "(I)Z"⟩, 49) := ⟨⟨by decide +kernel, by decide +kernel⟩, List.mem_of_getElem? (i := 1148) (by decide +kernel), List.mem_of_getElem? (i := 1440) (by decide +kernel), List.mem_of_getElem? (i := 1441) (by decide +kernel)⟩
theorem lw_p62 : lw_okq (⟨"HotAtSevenModel", "bigOnes", "(II)I"⟩, 49) := ⟨⟨by decide +kernel, by decide +kernel⟩, List.mem_of_getElem? (i := 1148) (by decide +kernel), List.mem_of_getElem? (i := 1454) (by decide +kernel), List.mem_of_getElem? (i := 1455) (by decide +kernel)⟩
theorem lw_p63 : lw_okq (⟨"HotAtSevenModel", "handsAt", "(II)I"⟩, 49) := ⟨⟨by decide +kernel, by decide +kernel⟩, List.mem_of_getElem? (i := 1148) (by decide +kernel), List.mem_of_getElem? (i := 1458) (by decide +kernel), List.mem_of_getElem? (i := 1459) (by decide +kernel)⟩
def lw_privs_4 : List (MethodName × Nat) := [(⟨"HotAtSevenModel", "bad", "(I)V"⟩, 49), (⟨"HotAtSevenModel", "number", "(III)V"⟩, 49), (⟨"HotAtSevenModel", "mustEnd", "()V"⟩, 49), (⟨"HotAtSevenModel", "readAway", "()V"⟩, 49), (⟨"HotAtSevenModel", "readDish", "()V"⟩, 49), (⟨"HotAtSevenModel", "kindOfWord", "()I"⟩, 49), (⟨"HotAtSevenModel", "readStep", "(II)V"⟩, 49), (⟨"HotAtSevenModel", "forget", "()V"⟩, 49), (⟨"HotAtSevenModel", "isDish", "(I)Z"⟩, 49), (⟨"HotAtSevenModel", "choicesOf", "(I)I"⟩, 49), (⟨"HotAtSevenModel", "dishOf", "(II)I"⟩, 49), (⟨"HotAtSevenModel", "waitsOf", "(II)I"⟩, 49), (⟨"HotAtSevenModel", "stepOf", "(II)I"⟩, 49), (⟨"HotAtSevenModel", "isStep", "(I)Z"⟩, 49), (⟨"HotAtSevenModel", "bigOnes", "(II)I"⟩, 49), (⟨"HotAtSevenModel", "handsAt", "(II)I"⟩, 49)]
theorem lw_r4 : ∀ q ∈ lw_privs_4, lw_okq q := List.forall_mem_cons.mpr ⟨lw_p48, List.forall_mem_cons.mpr ⟨lw_p49, List.forall_mem_cons.mpr ⟨lw_p50, List.forall_mem_cons.mpr ⟨lw_p51, List.forall_mem_cons.mpr ⟨lw_p52, List.forall_mem_cons.mpr ⟨lw_p53, List.forall_mem_cons.mpr ⟨lw_p54, List.forall_mem_cons.mpr ⟨lw_p55, List.forall_mem_cons.mpr ⟨lw_p56, List.forall_mem_cons.mpr ⟨lw_p57, List.forall_mem_cons.mpr ⟨lw_p58, List.forall_mem_cons.mpr ⟨lw_p59, List.forall_mem_cons.mpr ⟨lw_p60, List.forall_mem_cons.mpr ⟨lw_p61, List.forall_mem_cons.mpr ⟨lw_p62, List.forall_mem_cons.mpr ⟨lw_p63, fun _ h => absurd h List.not_mem_nil⟩⟩⟩⟩⟩⟩⟩⟩⟩⟩⟩⟩⟩⟩⟩⟩
theorem lw_p64 : lw_okq (⟨"HotAtSevenModel", "know", "(I)Z"⟩, 49) := ⟨⟨by decide +kernel, by decide +kernel⟩, List.mem_of_getElem? (i := 1148) (by decide +kernel), List.mem_of_getElem? (i := 1481) (by decide +kernel), List.mem_of_getElem? (i := 1482) (by decide +kernel)⟩
theorem lw_p65 : lw_okq (⟨"HotAtSevenModel", "seek", "(IIIIZZ)Z"⟩, 49) := ⟨⟨by decide +kernel, by decide +kernel⟩, List.mem_of_getElem? (i := 1148) (by decide +kernel), List.mem_of_getElem? (i := 1485) (by decide +kernel), List.mem_of_getElem? (i := 1486) (by decide +kernel)⟩
theorem lw_p66 : lw_okq (⟨"HotAtSevenModel", "clearLevel", "()V"⟩, 49) := ⟨⟨by decide +kernel, by decide +kernel⟩, List.mem_of_getElem? (i := 1148) (by decide +kernel), List.mem_of_getElem? (i := 1489) (by decide +kernel), List.mem_of_getElem? (i := 1490) (by decide +kernel)⟩
theorem lw_p67 : lw_okq (⟨"HotAtSevenModel", "fits", "(IIII)Z"⟩, 49) := ⟨⟨by decide +kernel, by decide +kernel⟩, List.mem_of_getElem? (i := 1148) (by decide +kernel), List.mem_of_getElem? (i := 1493) (by decide +kernel), List.mem_of_getElem? (i := 1494) (by decide +kernel)⟩
theorem lw_p68 : lw_okq (⟨"HotAtSevenModel", "layBegins", "(II)Z"⟩, 49) := ⟨⟨by decide +kernel, by decide +kernel⟩, List.mem_of_getElem? (i := 1148) (by decide +kernel), List.mem_of_getElem? (i := 1497) (by decide +kernel), List.mem_of_getElem? (i := 1498) (by decide +kernel)⟩
theorem lw_p69 : lw_okq (⟨"HotAtSevenModel", "copyLevel", "(I)V"⟩, 49) := ⟨⟨by decide +kernel, by decide +kernel⟩, List.mem_of_getElem? (i := 1148) (by decide +kernel), List.mem_of_getElem? (i := 1501) (by decide +kernel), List.mem_of_getElem? (i := 1502) (by decide +kernel)⟩
theorem lw_p70 : lw_okq (⟨"HotAtSevenModel", "addStep", "(IIII)V"⟩, 49) := ⟨⟨by decide +kernel, by decide +kernel⟩, List.mem_of_getElem? (i := 1148) (by decide +kernel), List.mem_of_getElem? (i := 1505) (by decide +kernel), List.mem_of_getElem? (i := 1506) (by decide +kernel)⟩
theorem lw_p71 : lw_okq (⟨"HotAtSevenModel", "addPan", "(III)V"⟩, 49) := ⟨⟨by decide +kernel, by decide +kernel⟩, List.mem_of_getElem? (i := 1148) (by decide +kernel), List.mem_of_getElem? (i := 1509) (by decide +kernel), List.mem_of_getElem? (i := 1510) (by decide +kernel)⟩
theorem lw_p72 : lw_okq (⟨"HotAtSevenModel", "lacks", "(III)I"⟩, 49) := ⟨⟨by decide +kernel, by decide +kernel⟩, List.mem_of_getElem? (i := 1148) (by decide +kernel), List.mem_of_getElem? (i := 1513) (by decide +kernel), List.mem_of_getElem? (i := 1514) (by decide +kernel)⟩
theorem lw_p73 : lw_okq (⟨"HotAtSevenModel", "layRow", "()V"⟩, 49) := ⟨⟨by decide +kernel, by decide +kernel⟩, List.mem_of_getElem? (i := 1148) (by decide +kernel), List.mem_of_getElem? (i := 1517) (by decide +kernel), List.mem_of_getElem? (i := 1518) (by decide +kernel)⟩
theorem lw_p74 : lw_okq (⟨"HotAtSevenModel", "canBe", "(III)Z"⟩, 49) := ⟨⟨by decide +kernel, by decide +kernel⟩, List.mem_of_getElem? (i := 1148) (by decide +kernel), List.mem_of_getElem? (i := 1533) (by decide +kernel), List.mem_of_getElem? (i := 1534) (by decide +kernel)⟩
theorem lw_p75 : lw_okq (⟨"HotAtSevenModel", "judged", "(I)I"⟩, 49) := ⟨⟨by decide +kernel, by decide +kernel⟩, List.mem_of_getElem? (i := 1148) (by decide +kernel), List.mem_of_getElem? (i := 1541) (by decide +kernel), List.mem_of_getElem? (i := 1542) (by decide +kernel)⟩
theorem lw_p76 : lw_okq (⟨"HotAtSevenModel", "endOf", "(I)I"⟩, 49) := ⟨⟨by decide +kernel, by decide +kernel⟩, List.mem_of_getElem? (i := 1148) (by decide +kernel), List.mem_of_getElem? (i := 1545) (by decide +kernel), List.mem_of_getElem? (i := 1546) (by decide +kernel)⟩
theorem lw_p77 : lw_okq (⟨"HotAtSevenModel", "isFirst", "(I)Z"⟩, 49) := ⟨⟨by decide +kernel, by decide +kernel⟩, List.mem_of_getElem? (i := 1148) (by decide +kernel), List.mem_of_getElem? (i := 1549) (by decide +kernel), List.mem_of_getElem? (i := 1550) (by decide +kernel)⟩
theorem lw_p78 : lw_okq (⟨"HotAtSevenModel", "dishBy", "(I)I"⟩, 49) := ⟨⟨by decide +kernel, by decide +kernel⟩, List.mem_of_getElem? (i := 1148) (by decide +kernel), List.mem_of_getElem? (i := 1553) (by decide +kernel), List.mem_of_getElem? (i := 1554) (by decide +kernel)⟩
theorem lw_p79 : lw_okq (⟨"HotAtSevenModel", "isLast", "(I)Z"⟩, 49) := ⟨⟨by decide +kernel, by decide +kernel⟩, List.mem_of_getElem? (i := 1148) (by decide +kernel), List.mem_of_getElem? (i := 1557) (by decide +kernel), List.mem_of_getElem? (i := 1558) (by decide +kernel)⟩
def lw_privs_5 : List (MethodName × Nat) := [(⟨"HotAtSevenModel", "know", "(I)Z"⟩, 49), (⟨"HotAtSevenModel", "seek", "(IIIIZZ)Z"⟩, 49), (⟨"HotAtSevenModel", "clearLevel", "()V"⟩, 49), (⟨"HotAtSevenModel", "fits", "(IIII)Z"⟩, 49), (⟨"HotAtSevenModel", "layBegins", "(II)Z"⟩, 49), (⟨"HotAtSevenModel", "copyLevel", "(I)V"⟩, 49), (⟨"HotAtSevenModel", "addStep", "(IIII)V"⟩, 49), (⟨"HotAtSevenModel", "addPan", "(III)V"⟩, 49), (⟨"HotAtSevenModel", "lacks", "(III)I"⟩, 49), (⟨"HotAtSevenModel", "layRow", "()V"⟩, 49), (⟨"HotAtSevenModel", "canBe", "(III)Z"⟩, 49), (⟨"HotAtSevenModel", "judged", "(I)I"⟩, 49), (⟨"HotAtSevenModel", "endOf", "(I)I"⟩, 49), (⟨"HotAtSevenModel", "isFirst", "(I)Z"⟩, 49), (⟨"HotAtSevenModel", "dishBy", "(I)I"⟩, 49), (⟨"HotAtSevenModel", "isLast", "(I)Z"⟩, 49)]
theorem lw_r5 : ∀ q ∈ lw_privs_5, lw_okq q := List.forall_mem_cons.mpr ⟨lw_p64, List.forall_mem_cons.mpr ⟨lw_p65, List.forall_mem_cons.mpr ⟨lw_p66, List.forall_mem_cons.mpr ⟨lw_p67, List.forall_mem_cons.mpr ⟨lw_p68, List.forall_mem_cons.mpr ⟨lw_p69, List.forall_mem_cons.mpr ⟨lw_p70, List.forall_mem_cons.mpr ⟨lw_p71, List.forall_mem_cons.mpr ⟨lw_p72, List.forall_mem_cons.mpr ⟨lw_p73, List.forall_mem_cons.mpr ⟨lw_p74, List.forall_mem_cons.mpr ⟨lw_p75, List.forall_mem_cons.mpr ⟨lw_p76, List.forall_mem_cons.mpr ⟨lw_p77, List.forall_mem_cons.mpr ⟨lw_p78, List.forall_mem_cons.mpr ⟨lw_p79, fun _ h => absurd h List.not_mem_nil⟩⟩⟩⟩⟩⟩⟩⟩⟩⟩⟩⟩⟩⟩⟩⟩
theorem lw_p80 : lw_okq (⟨"HotAtSevenModel", "layPlan", "()V"⟩, 49) := ⟨⟨by decide +kernel, by decide +kernel⟩, List.mem_of_getElem? (i := 1148) (by decide +kernel), List.mem_of_getElem? (i := 1565) (by decide +kernel), List.mem_of_getElem? (i := 1566) (by decide +kernel)⟩
theorem lw_p81 : lw_okq (⟨"HotAtSevenModel", "kindOf", "(I)I"⟩, 49) := ⟨⟨by decide +kernel, by decide +kernel⟩, List.mem_of_getElem? (i := 1148) (by decide +kernel), List.mem_of_getElem? (i := 1611) (by decide +kernel), List.mem_of_getElem? (i := 1612) (by decide +kernel)⟩
theorem lw_p82 : lw_okq (⟨"HotAtSevenModel", "sizeOf", "(II)I"⟩, 49) := ⟨⟨by decide +kernel, by decide +kernel⟩, List.mem_of_getElem? (i := 1148) (by decide +kernel), List.mem_of_getElem? (i := 1627) (by decide +kernel), List.mem_of_getElem? (i := 1628) (by decide +kernel)⟩
theorem lw_p83 : lw_okq (⟨"HotAtSevenModel", "began", "(I)V"⟩, 49) := ⟨⟨by decide +kernel, by decide +kernel⟩, List.mem_of_getElem? (i := 1148) (by decide +kernel), List.mem_of_getElem? (i := 1631) (by decide +kernel), List.mem_of_getElem? (i := 1632) (by decide +kernel)⟩
theorem lw_p84 : lw_okq (⟨"HotAtSevenModel", "markOf", "(II)I"⟩, 49) := ⟨⟨by decide +kernel, by decide +kernel⟩, List.mem_of_getElem? (i := 1148) (by decide +kernel), List.mem_of_getElem? (i := 1635) (by decide +kernel), List.mem_of_getElem? (i := 1636) (by decide +kernel)⟩
def lw_privs_6 : List (MethodName × Nat) := [(⟨"HotAtSevenModel", "layPlan", "()V"⟩, 49), (⟨"HotAtSevenModel", "kindOf", "(I)I"⟩, 49), (⟨"HotAtSevenModel", "sizeOf", "(II)I"⟩, 49), (⟨"HotAtSevenModel", "began", "(I)V"⟩, 49), (⟨"HotAtSevenModel", "markOf", "(II)I"⟩, 49)]
theorem lw_r6 : ∀ q ∈ lw_privs_6, lw_okq q := List.forall_mem_cons.mpr ⟨lw_p80, List.forall_mem_cons.mpr ⟨lw_p81, List.forall_mem_cons.mpr ⟨lw_p82, List.forall_mem_cons.mpr ⟨lw_p83, List.forall_mem_cons.mpr ⟨lw_p84, fun _ h => absurd h List.not_mem_nil⟩⟩⟩⟩⟩
def lw_privs : List (MethodName × Nat) := lw_privs_1 ++ (lw_privs_2 ++ (lw_privs_3 ++ (lw_privs_4 ++ (lw_privs_5 ++ (lw_privs_6)))))
def lw_tbl : List Cond := k2_sels lw_privs ++ tables_1
theorem lw_privs_ok : ∀ q ∈ lw_privs, lw_okq q := by
  show ∀ q ∈ lw_privs_1 ++ (lw_privs_2 ++ (lw_privs_3 ++ (lw_privs_4 ++ (lw_privs_5 ++ (lw_privs_6))))), lw_okq q
  exact List.forall_mem_append.mpr ⟨lw_r1, List.forall_mem_append.mpr ⟨lw_r2, List.forall_mem_append.mpr ⟨lw_r3, List.forall_mem_append.mpr ⟨lw_r4, List.forall_mem_append.mpr ⟨lw_r5, lw_r6⟩⟩⟩⟩⟩
def RX0 : String := "HotAtSeven$Asker"
def TX0 : u_T := fun k => match k with
  | 0 => ("HotAtSeven$Asker", "bodies", "[I", true)
  | _ => ("HotAtSeven$Asker", "length", "I", false)
def tyX0 : Nat → FieldType := fun k => match k with
  | 0 => .array .int
  | _ => .int
abbrev wsX00 : List Cond := u_ws RX0 TX0 2
theorem nmX0 : ∀ a, a < 2 → ∀ b, b < 2 → a ≠ b → (TX0 a).2.1 ≠ (TX0 b).2.1 := by decide +kernel
theorem tyX0_ok : ∀ k, k < 2 → parseFieldDescriptor (TX0 k).2.2.1 = some (tyX0 k) := by decide +kernel
abbrev cX0_init : ByteArray := prog_2_method_1_code
def yX0_init : MethodName := ⟨RX0, "<init>", "()V"⟩
abbrev cX0_isKind : ByteArray := prog_2_method_2_code
def yX0_isKind : MethodName := ⟨RX0, "isKind", "(II)Z"⟩
abbrev cX0_answer : ByteArray := prog_2_method_3_code
def yX0_answer : MethodName := ⟨RX0, "answer", "(LHotAtSeven$Book;II)I"⟩
abbrev cX0_begin : ByteArray := prog_2_method_4_code
def yX0_begin : MethodName := ⟨RX0, "begin", "(I)V"⟩
abbrev cX0_sizeOf : ByteArray := prog_2_method_5_code
def yX0_sizeOf : MethodName := ⟨RX0, "sizeOf", "(LHotAtSeven$Book;II)I"⟩
abbrev cX0_sizeOfAny : ByteArray := prog_2_method_6_code
def yX0_sizeOfAny : MethodName := ⟨RX0, "sizeOfAny", "(LHotAtSeven$Book;I)I"⟩
abbrev cX0_sizeOfRinged : ByteArray := prog_2_method_7_code
def yX0_sizeOfRinged : MethodName := ⟨RX0, "sizeOfRinged", "(LHotAtSeven$Book;I)I"⟩
abbrev cX0_markOf : ByteArray := prog_2_method_8_code
def yX0_markOf : MethodName := ⟨RX0, "markOf", "(LHotAtSeven$Book;II)I"⟩
abbrev cX0_markOfAny : ByteArray := prog_2_method_9_code
def yX0_markOfAny : MethodName := ⟨RX0, "markOfAny", "(I)I"⟩
abbrev cX0_markOfRested : ByteArray := prog_2_method_10_code
def yX0_markOfRested : MethodName := ⟨RX0, "markOfRested", "(I)I"⟩
def RX1 : String := "HotAtSeven$Book"
def TX1 : u_T := fun k => match k with
  | 0 => ("HotAtSeven$Book", "kitchen", "[I", true)
  | 1 => ("HotAtSeven$Book", "aways", "I", false)
  | 2 => ("HotAtSeven$Book", "from", "[I", true)
  | 3 => ("HotAtSeven$Book", "till", "[I", true)
  | 4 => ("HotAtSeven$Book", "dishes", "I", false)
  | 5 => ("HotAtSeven$Book", "keep", "[I", true)
  | 6 => ("HotAtSeven$Book", "cold", "[I", true)
  | 7 => ("HotAtSeven$Book", "pan", "[I", true)
  | 8 => ("HotAtSeven$Book", "parts", "[I", true)
  | 9 => ("HotAtSeven$Book", "first", "[I", true)
  | 10 => ("HotAtSeven$Book", "steps", "I", false)
  | 11 => ("HotAtSeven$Book", "word", "[I", true)
  | 12 => ("HotAtSeven$Book", "longs", "[I", true)
  | 13 => ("HotAtSeven$Book", "wait", "[I", true)
  | 14 => ("HotAtSeven$Book", "stir", "[I", true)
  | 15 => ("HotAtSeven$Book", "low", "[I", true)
  | 16 => ("HotAtSeven$Book", "high", "[I", true)
  | 17 => ("HotAtSeven$Book", "dinner", "I", false)
  | _ => ("HotAtSeven$Book", "out", "I", false)
def tyX1 : Nat → FieldType := fun k => match k with
  | 0 => .array .int
  | 1 => .int
  | 2 => .array .int
  | 3 => .array .int
  | 4 => .int
  | 5 => .array .int
  | 6 => .array .int
  | 7 => .array .int
  | 8 => .array .int
  | 9 => .array .int
  | 10 => .int
  | 11 => .array .int
  | 12 => .array .int
  | 13 => .array .int
  | 14 => .array .int
  | 15 => .array .int
  | 16 => .array .int
  | 17 => .int
  | _ => .int
abbrev wsX10 : List Cond := u_ws RX1 TX1 19
theorem nmX1 : ∀ a, a < 19 → ∀ b, b < 19 → a ≠ b → (TX1 a).2.1 ≠ (TX1 b).2.1 := by decide +kernel
theorem tyX1_ok : ∀ k, k < 19 → parseFieldDescriptor (TX1 k).2.2.1 = some (tyX1 k) := by decide +kernel
abbrev cX1_init : ByteArray := prog_3_method_1_code
def yX1_init : MethodName := ⟨RX1, "<init>", "()V"⟩
abbrev cX1_clear : ByteArray := prog_3_method_2_code
def yX1_clear : MethodName := ⟨RX1, "clear", "()V"⟩
abbrev cX1_take : ByteArray := prog_3_method_3_code
def yX1_take : MethodName := ⟨RX1, "take", "(LHotAtSeven$Book;)V"⟩
abbrev cX1_isRead : ByteArray := prog_3_method_4_code
def yX1_isRead : MethodName := ⟨RX1, "isRead", "()Z"⟩
abbrev cX1_hasStep : ByteArray := prog_3_method_5_code
def yX1_hasStep : MethodName := ⟨RX1, "hasStep", "(I)Z"⟩
abbrev cX1_allDishes : ByteArray := prog_3_method_6_code
def yX1_allDishes : MethodName := ⟨RX1, "allDishes", "()I"⟩
abbrev cX1_dinnerSteps : ByteArray := prog_3_method_7_code
def yX1_dinnerSteps : MethodName := ⟨RX1, "dinnerSteps", "()I"⟩
abbrev cX1_waitBehind : ByteArray := prog_3_method_8_code
def yX1_waitBehind : MethodName := ⟨RX1, "waitBehind", "(II)I"⟩
abbrev cX1_given : ByteArray := prog_3_method_9_code
def yX1_given : MethodName := ⟨RX1, "given", "(II)I"⟩
abbrev cX1_awayAt : ByteArray := prog_3_method_10_code
def yX1_awayAt : MethodName := ⟨RX1, "awayAt", "(I)I"⟩
abbrev cX1_kindOf : ByteArray := prog_3_method_11_code
def yX1_kindOf : MethodName := ⟨RX1, "kindOf", "(I)I"⟩
abbrev cX1_warmsBy : ByteArray := prog_3_method_12_code
def yX1_warmsBy : MethodName := ⟨RX1, "warmsBy", "(II)Z"⟩
abbrev cX1_heatsAgree : ByteArray := prog_3_method_13_code
def yX1_heatsAgree : MethodName := ⟨RX1, "heatsAgree", "(IIII)Z"⟩
def RX2 : String := "HotAtSeven$Judge"
def TX2 : u_T := fun k => match k with
  | 0 => ("HotAtSeven$Judge", "oven", "LHotAtSeven$Oven;", true)
  | 1 => ("HotAtSeven$Judge", "ways", "[LHotAtSeven$Way;", true)
  | 2 => ("HotAtSeven$Judge", "tally", "LHotAtSeven$Tally;", true)
  | _ => ("HotAtSeven$Judge", "lacking", "[J", true)
def tyX2 : Nat → FieldType := fun k => match k with
  | 0 => .object "HotAtSeven$Oven"
  | 1 => .array (.object "HotAtSeven$Way")
  | 2 => .object "HotAtSeven$Tally"
  | _ => .array .long
abbrev wsX20 : List Cond := u_ws RX2 TX2 4
theorem nmX2 : ∀ a, a < 4 → ∀ b, b < 4 → a ≠ b → (TX2 a).2.1 ≠ (TX2 b).2.1 := by decide +kernel
theorem tyX2_ok : ∀ k, k < 4 → parseFieldDescriptor (TX2 k).2.2.1 = some (tyX2 k) := by decide +kernel
abbrev cX2_init : ByteArray := prog_4_method_1_code
def yX2_init : MethodName := ⟨RX2, "<init>", "()V"⟩
abbrev cX2_judged : ByteArray := prog_4_method_2_code
def yX2_judged : MethodName := ⟨RX2, "judged", "(LHotAtSeven$Book;LHotAtSeven$Kitchen;LHotAtSeven$Row;I)I"⟩
abbrev cX2_followsInTime : ByteArray := prog_4_method_3_code
def yX2_followsInTime : MethodName := ⟨RX2, "followsInTime", "(LHotAtSeven$Book;LHotAtSeven$Row;I)Z"⟩
abbrev cX2_firstLack : ByteArray := prog_4_method_4_code
def yX2_firstLack : MethodName := ⟨RX2, "firstLack", "(LHotAtSeven$Book;LHotAtSeven$Kitchen;LHotAtSeven$Row;)I"⟩
abbrev cX2_lackAt : ByteArray := prog_4_method_5_code
def yX2_lackAt : MethodName := ⟨RX2, "lackAt", "(JZ)I"⟩
abbrev cX2_lay : ByteArray := prog_4_method_6_code
def yX2_lay : MethodName := ⟨RX2, "lay", "(LHotAtSeven$Book;LHotAtSeven$Kitchen;LHotAtSeven$Row;)V"⟩
abbrev cX2_wantedAt : ByteArray := prog_4_method_7_code
def yX2_wantedAt : MethodName := ⟨RX2, "wantedAt", "(LHotAtSeven$Row;II)I"⟩
def RX3 : String := "HotAtSeven$Kitchen"
def TX3 : u_T := fun k => match k with
  | _ => ("HotAtSeven$Kitchen", "fewer", "[J", true)
def tyX3 : Nat → FieldType := fun k => match k with
  | _ => .array .long
abbrev wsX30 : List Cond := u_ws RX3 TX3 1
theorem nmX3 : ∀ a, a < 1 → ∀ b, b < 1 → a ≠ b → (TX3 a).2.1 ≠ (TX3 b).2.1 := by decide +kernel
theorem tyX3_ok : ∀ k, k < 1 → parseFieldDescriptor (TX3 k).2.2.1 = some (tyX3 k) := by decide +kernel
abbrev cX3_init : ByteArray := prog_5_method_1_code
def yX3_init : MethodName := ⟨RX3, "<init>", "()V"⟩
abbrev cX3_fewerThan : ByteArray := prog_5_method_2_code
def yX3_fewerThan : MethodName := ⟨RX3, "fewerThan", "(II)J"⟩
abbrev cX3_giveAll : ByteArray := prog_5_method_3_code
def yX3_giveAll : MethodName := ⟨RX3, "giveAll", "(LHotAtSeven$Book;I)V"⟩
abbrev cX3_fit : ByteArray := prog_5_method_4_code
def yX3_fit : MethodName := ⟨RX3, "fit", "(LHotAtSeven$Book;II)V"⟩
abbrev cX3_give : ByteArray := prog_5_method_5_code
def yX3_give : MethodName := ⟨RX3, "give", "(II)V"⟩
abbrev cX3_giveOneLess : ByteArray := prog_5_method_6_code
def yX3_giveOneLess : MethodName := ⟨RX3, "giveOneLess", "(IJ)V"⟩
def RX4 : String := "HotAtSeven$Oven"
def TX4 : u_T := fun k => match k with
  | 0 => ("HotAtSeven$Oven", "low", "[I", true)
  | 1 => ("HotAtSeven$Oven", "high", "[I", true)
  | _ => ("HotAtSeven$Oven", "heats", "[I", true)
def tyX4 : Nat → FieldType := fun k => match k with
  | 0 => .array .int
  | 1 => .array .int
  | _ => .array .int
abbrev wsX40 : List Cond := u_ws RX4 TX4 3
theorem nmX4 : ∀ a, a < 3 → ∀ b, b < 3 → a ≠ b → (TX4 a).2.1 ≠ (TX4 b).2.1 := by decide +kernel
theorem tyX4_ok : ∀ k, k < 3 → parseFieldDescriptor (TX4 k).2.2.1 = some (tyX4 k) := by decide +kernel
abbrev cX4_init : ByteArray := prog_6_method_1_code
def yX4_init : MethodName := ⟨RX4, "<init>", "()V"⟩
abbrev cX4_want : ByteArray := prog_6_method_2_code
def yX4_want : MethodName := ⟨RX4, "want", "(LHotAtSeven$Book;LHotAtSeven$Row;)V"⟩
abbrev cX4_firstLack : ByteArray := prog_6_method_3_code
def yX4_firstLack : MethodName := ⟨RX4, "firstLack", "(II)I"⟩
abbrev cX4_settle : ByteArray := prog_6_method_4_code
def yX4_settle : MethodName := ⟨RX4, "settle", "(II)V"⟩
def RX5 : String := "HotAtSeven$Planner"
def TX5 : u_T := fun k => match k with
  | 0 => ("HotAtSeven$Planner", "ways", "[LHotAtSeven$Way;", true)
  | 1 => ("HotAtSeven$Planner", "choices", "[I", true)
  | 2 => ("HotAtSeven$Planner", "cheapest", "[I", true)
  | 3 => ("HotAtSeven$Planner", "always", "[[J", true)
  | 4 => ("HotAtSeven$Planner", "tallies", "[LHotAtSeven$Tally;", true)
  | 5 => ("HotAtSeven$Planner", "seats", "[I", true)
  | 6 => ("HotAtSeven$Planner", "picked", "[I", true)
  | 7 => ("HotAtSeven$Planner", "best", "[I", true)
  | 8 => ("HotAtSeven$Planner", "rest", "[I", true)
  | 9 => ("HotAtSeven$Planner", "agreed", "[I", true)
  | 10 => ("HotAtSeven$Planner", "open", "[[I", true)
  | 11 => ("HotAtSeven$Planner", "possible", "[Z", true)
  | 12 => ("HotAtSeven$Planner", "seated", "I", false)
  | 13 => ("HotAtSeven$Planner", "limit", "I", false)
  | 14 => ("HotAtSeven$Planner", "anyWillDo", "Z", false)
  | 15 => ("HotAtSeven$Planner", "book", "LHotAtSeven$Book;", false)
  | 16 => ("HotAtSeven$Planner", "kitchen", "LHotAtSeven$Kitchen;", false)
  | 17 => ("HotAtSeven$Planner", "cost", "I", false)
  | 18 => ("HotAtSeven$Planner", "many", "I", false)
  | _ => ("HotAtSeven$Planner", "greatest", "I", false)
def tyX5 : Nat → FieldType := fun k => match k with
  | 0 => .array (.object "HotAtSeven$Way")
  | 1 => .array .int
  | 2 => .array .int
  | 3 => .array (.array .long)
  | 4 => .array (.object "HotAtSeven$Tally")
  | 5 => .array .int
  | 6 => .array .int
  | 7 => .array .int
  | 8 => .array .int
  | 9 => .array .int
  | 10 => .array (.array .int)
  | 11 => .array .boolean
  | 12 => .int
  | 13 => .int
  | 14 => .boolean
  | 15 => .object "HotAtSeven$Book"
  | 16 => .object "HotAtSeven$Kitchen"
  | 17 => .int
  | 18 => .int
  | _ => .int
abbrev wsX50 : List Cond := u_ws RX5 TX5 20
theorem nmX5 : ∀ a, a < 20 → ∀ b, b < 20 → a ≠ b → (TX5 a).2.1 ≠ (TX5 b).2.1 := by decide +kernel
theorem tyX5_ok : ∀ k, k < 20 → parseFieldDescriptor (TX5 k).2.2.1 = some (tyX5 k) := by decide +kernel
abbrev cX5_init : ByteArray := prog_7_method_1_code
def yX5_init : MethodName := ⟨RX5, "<init>", "()V"⟩
abbrev cX5_lay : ByteArray := prog_7_method_2_code
def yX5_lay : MethodName := ⟨RX5, "lay", "(LHotAtSeven$Book;LHotAtSeven$Kitchen;II)V"⟩
abbrev cX5_layDish : ByteArray := prog_7_method_3_code
def yX5_layDish : MethodName := ⟨RX5, "layDish", "(II)V"⟩
abbrev cX5_strikeEarly : ByteArray := prog_7_method_4_code
def yX5_strikeEarly : MethodName := ⟨RX5, "strikeEarly", "()V"⟩
abbrev cX5_strikeUnlike : ByteArray := prog_7_method_5_code
def yX5_strikeUnlike : MethodName := ⟨RX5, "strikeUnlike", "(LHotAtSeven$Row;I)V"⟩
abbrev cX5_settle : ByteArray := prog_7_method_6_code
def yX5_settle : MethodName := ⟨RX5, "settle", "(I)V"⟩
abbrev cX5_settleDish : ByteArray := prog_7_method_7_code
def yX5_settleDish : MethodName := ⟨RX5, "settleDish", "(I)V"⟩
abbrev cX5_finds : ByteArray := prog_7_method_8_code
def yX5_finds : MethodName := ⟨RX5, "finds", "(IZ)Z"⟩
abbrev cX5_seatAll : ByteArray := prog_7_method_9_code
def yX5_seatAll : MethodName := ⟨RX5, "seatAll", "(I)Z"⟩
abbrev cX5_choicesThatCan : ByteArray := prog_7_method_10_code
def yX5_choicesThatCan : MethodName := ⟨RX5, "choicesThatCan", "(I)I"⟩
abbrev cX5_seek : ByteArray := prog_7_method_11_code
def yX5_seek : MethodName := ⟨RX5, "seek", "(II)V"⟩
abbrev cX5_leavesOpen : ByteArray := prog_7_method_12_code
def yX5_leavesOpen : MethodName := ⟨RX5, "leavesOpen", "(II)Z"⟩
abbrev cX5_agreeing : ByteArray := prog_7_method_13_code
def yX5_agreeing : MethodName := ⟨RX5, "agreeing", "(II)I"⟩
abbrev cX5_collide : ByteArray := prog_7_method_14_code
def yX5_collide : MethodName := ⟨RX5, "collide", "([J[J)Z"⟩
abbrev cX5_keepPicked : ByteArray := prog_7_method_15_code
def yX5_keepPicked : MethodName := ⟨RX5, "keepPicked", "(I)V"⟩
abbrev cX5_tell : ByteArray := prog_7_method_16_code
def yX5_tell : MethodName := ⟨RX5, "tell", "(LHotAtSeven$Row;)V"⟩
abbrev cX5_countDinners : ByteArray := prog_7_method_17_code
def yX5_countDinners : MethodName := ⟨RX5, "countDinners", "()V"⟩
abbrev cX5_isBuilt : ByteArray := prog_7_method_18_code
def yX5_isBuilt : MethodName := ⟨RX5, "isBuilt", "(I)Z"⟩
def RX6 : String := "HotAtSeven$Reader"
def TX6 : u_T := fun k => match k with
  | 0 => ("HotAtSeven$Reader", "tape", "[I", true)
  | 1 => ("HotAtSeven$Reader", "length", "I", false)
  | 2 => ("HotAtSeven$Reader", "fault", "I", false)
  | 3 => ("HotAtSeven$Reader", "place", "I", false)
  | 4 => ("HotAtSeven$Reader", "behind", "I", false)
  | 5 => ("HotAtSeven$Reader", "sort", "I", false)
  | _ => ("HotAtSeven$Reader", "value", "I", false)
def tyX6 : Nat → FieldType := fun k => match k with
  | 0 => .array .int
  | 1 => .int
  | 2 => .int
  | 3 => .int
  | 4 => .int
  | 5 => .int
  | _ => .int
abbrev wsX60 : List Cond := u_ws RX6 TX6 7
theorem nmX6 : ∀ a, a < 7 → ∀ b, b < 7 → a ≠ b → (TX6 a).2.1 ≠ (TX6 b).2.1 := by decide +kernel
theorem tyX6_ok : ∀ k, k < 7 → parseFieldDescriptor (TX6 k).2.2.1 = some (tyX6 k) := by decide +kernel
abbrev cX6_init : ByteArray := prog_8_method_1_code
def yX6_init : MethodName := ⟨RX6, "<init>", "()V"⟩
abbrev cX6_hasRoom : ByteArray := prog_8_method_2_code
def yX6_hasRoom : MethodName := ⟨RX6, "hasRoom", "(I)Z"⟩
abbrev cX6_put : ByteArray := prog_8_method_3_code
def yX6_put : MethodName := ⟨RX6, "put", "(JI)V"⟩
abbrev cX6_read : ByteArray := prog_8_method_4_code
def yX6_read : MethodName := ⟨RX6, "read", "(LHotAtSeven$Book;)V"⟩
abbrev cX6_readKitchen : ByteArray := prog_8_method_5_code
def yX6_readKitchen : MethodName := ⟨RX6, "readKitchen", "(LHotAtSeven$Book;)V"⟩
abbrev cX6_readAway : ByteArray := prog_8_method_6_code
def yX6_readAway : MethodName := ⟨RX6, "readAway", "(LHotAtSeven$Book;)V"⟩
abbrev cX6_readDish : ByteArray := prog_8_method_7_code
def yX6_readDish : MethodName := ⟨RX6, "readDish", "(LHotAtSeven$Book;)V"⟩
abbrev cX6_readSteps : ByteArray := prog_8_method_8_code
def yX6_readSteps : MethodName := ⟨RX6, "readSteps", "(LHotAtSeven$Book;)V"⟩
abbrev cX6_readStep : ByteArray := prog_8_method_9_code
def yX6_readStep : MethodName := ⟨RX6, "readStep", "(LHotAtSeven$Book;II)V"⟩
abbrev cX6_stepWord : ByteArray := prog_8_method_10_code
def yX6_stepWord : MethodName := ⟨RX6, "stepWord", "()I"⟩
abbrev cX6_takeWord : ByteArray := prog_8_method_11_code
def yX6_takeWord : MethodName := ⟨RX6, "takeWord", "(Ljava/lang/String;)V"⟩
abbrev cX6_takeSign : ByteArray := prog_8_method_12_code
def yX6_takeSign : MethodName := ⟨RX6, "takeSign", "()V"⟩
abbrev cX6_takeNumber : ByteArray := prog_8_method_13_code
def yX6_takeNumber : MethodName := ⟨RX6, "takeNumber", "(II)I"⟩
abbrev cX6_isWord : ByteArray := prog_8_method_14_code
def yX6_isWord : MethodName := ⟨RX6, "isWord", "(Ljava/lang/String;)Z"⟩
abbrev cX6_advance : ByteArray := prog_8_method_15_code
def yX6_advance : MethodName := ⟨RX6, "advance", "()V"⟩
abbrev cX6_takeFigures : ByteArray := prog_8_method_16_code
def yX6_takeFigures : MethodName := ⟨RX6, "takeFigures", "()V"⟩
def RX7 : String := "HotAtSeven$Row"
def TX7 : u_T := fun k => match k with
  | 0 => ("HotAtSeven$Row", "dishes", "I", false)
  | 1 => ("HotAtSeven$Row", "size", "I", false)
  | 2 => ("HotAtSeven$Row", "dish", "[I", true)
  | 3 => ("HotAtSeven$Row", "choice", "[I", true)
  | 4 => ("HotAtSeven$Row", "step", "[I", true)
  | 5 => ("HotAtSeven$Row", "seat", "[I", true)
  | 6 => ("HotAtSeven$Row", "begins", "[I", true)
  | _ => ("HotAtSeven$Row", "longs", "[I", true)
def tyX7 : Nat → FieldType := fun k => match k with
  | 0 => .int
  | 1 => .int
  | 2 => .array .int
  | 3 => .array .int
  | 4 => .array .int
  | 5 => .array .int
  | 6 => .array .int
  | _ => .array .int
abbrev wsX70 : List Cond := u_ws RX7 TX7 8
theorem nmX7 : ∀ a, a < 8 → ∀ b, b < 8 → a ≠ b → (TX7 a).2.1 ≠ (TX7 b).2.1 := by decide +kernel
theorem tyX7_ok : ∀ k, k < 8 → parseFieldDescriptor (TX7 k).2.2.1 = some (tyX7 k) := by decide +kernel
abbrev cX7_init : ByteArray := prog_9_method_1_code
def yX7_init : MethodName := ⟨RX7, "<init>", "()V"⟩
abbrev cX7_fill : ByteArray := prog_9_method_2_code
def yX7_fill : MethodName := ⟨RX7, "fill", "(LHotAtSeven$Book;)V"⟩
abbrev cX7_fillDish : ByteArray := prog_9_method_3_code
def yX7_fillDish : MethodName := ⟨RX7, "fillDish", "(LHotAtSeven$Book;I)V"⟩
abbrev cX7_take : ByteArray := prog_9_method_4_code
def yX7_take : MethodName := ⟨RX7, "take", "(LHotAtSeven$Row;)V"⟩
abbrev cX7_isFirst : ByteArray := prog_9_method_5_code
def yX7_isFirst : MethodName := ⟨RX7, "isFirst", "(I)Z"⟩
abbrev cX7_isLast : ByteArray := prog_9_method_6_code
def yX7_isLast : MethodName := ⟨RX7, "isLast", "(I)Z"⟩
def RX8 : String := "HotAtSeven$Sheets"
def TX8 : u_T := fun k => match k with
  | 0 => ("HotAtSeven$Sheets", "lanes", "[I", true)
  | 1 => ("HotAtSeven$Sheets", "sizes", "[I", true)
  | _ => ("HotAtSeven$Sheets", "items", "[[I", true)
def tyX8 : Nat → FieldType := fun k => match k with
  | 0 => .array .int
  | 1 => .array .int
  | _ => .array (.array .int)
abbrev wsX80 : List Cond := u_ws RX8 TX8 3
theorem nmX8 : ∀ a, a < 3 → ∀ b, b < 3 → a ≠ b → (TX8 a).2.1 ≠ (TX8 b).2.1 := by decide +kernel
theorem tyX8_ok : ∀ k, k < 3 → parseFieldDescriptor (TX8 k).2.2.1 = some (tyX8 k) := by decide +kernel
abbrev cX8_init : ByteArray := prog_10_method_1_code
def yX8_init : MethodName := ⟨RX8, "<init>", "()V"⟩
abbrev cX8_isOne : ByteArray := prog_10_method_2_code
def yX8_isOne : MethodName := ⟨RX8, "isOne", "(I)Z"⟩
abbrev cX8_isMissing : ByteArray := prog_10_method_3_code
def yX8_isMissing : MethodName := ⟨RX8, "isMissing", "(I)Z"⟩
abbrev cX8_reaches : ByteArray := prog_10_method_4_code
def yX8_reaches : MethodName := ⟨RX8, "reaches", "(III)Z"⟩
abbrev cX8_lay : ByteArray := prog_10_method_5_code
def yX8_lay : MethodName := ⟨RX8, "lay", "(III)V"⟩
abbrev cX8_write : ByteArray := prog_10_method_6_code
def yX8_write : MethodName := ⟨RX8, "write", "(III)I"⟩
abbrev cX8_lose : ByteArray := prog_10_method_7_code
def yX8_lose : MethodName := ⟨RX8, "lose", "(I)I"⟩
abbrev cX8_present : ByteArray := prog_10_method_8_code
def yX8_present : MethodName := ⟨RX8, "present", "()I"⟩
def RX9 : String := "HotAtSeven$Tally"
def TX9 : u_T := fun k => match k with
  | 0 => ("HotAtSeven$Tally", "once", "[J", true)
  | 1 => ("HotAtSeven$Tally", "twice", "[J", true)
  | 2 => ("HotAtSeven$Tally", "thrice", "[J", true)
  | _ => ("HotAtSeven$Tally", "full", "[J", true)
def tyX9 : Nat → FieldType := fun k => match k with
  | 0 => .array .long
  | 1 => .array .long
  | 2 => .array .long
  | _ => .array .long
abbrev wsX90 : List Cond := u_ws RX9 TX9 4
theorem nmX9 : ∀ a, a < 4 → ∀ b, b < 4 → a ≠ b → (TX9 a).2.1 ≠ (TX9 b).2.1 := by decide +kernel
theorem tyX9_ok : ∀ k, k < 4 → parseFieldDescriptor (TX9 k).2.2.1 = some (tyX9 k) := by decide +kernel
abbrev cX9_init : ByteArray := prog_11_method_1_code
def yX9_init : MethodName := ⟨RX9, "<init>", "()V"⟩
abbrev cX9_open : ByteArray := prog_11_method_2_code
def yX9_open : MethodName := ⟨RX9, "open", "(LHotAtSeven$Kitchen;)V"⟩
abbrev cX9_hasRoom : ByteArray := prog_11_method_3_code
def yX9_hasRoom : MethodName := ⟨RX9, "hasRoom", "([J)Z"⟩
abbrev cX9_add : ByteArray := prog_11_method_4_code
def yX9_add : MethodName := ⟨RX9, "add", "(LHotAtSeven$Tally;[JLHotAtSeven$Kitchen;)V"⟩
def RX10 : String := "HotAtSeven$Way"
def TX10 : u_T := fun k => match k with
  | 0 => ("HotAtSeven$Way", "begins", "[I", true)
  | 1 => ("HotAtSeven$Way", "longs", "[I", true)
  | 2 => ("HotAtSeven$Way", "bits", "[J", true)
  | 3 => ("HotAtSeven$Way", "dish", "I", false)
  | 4 => ("HotAtSeven$Way", "early", "I", false)
  | 5 => ("HotAtSeven$Way", "cost", "I", false)
  | _ => ("HotAtSeven$Way", "can", "Z", false)
def tyX10 : Nat → FieldType := fun k => match k with
  | 0 => .array .int
  | 1 => .array .int
  | 2 => .array .long
  | 3 => .int
  | 4 => .int
  | 5 => .int
  | _ => .boolean
abbrev wsX100 : List Cond := u_ws RX10 TX10 7
theorem nmX10 : ∀ a, a < 7 → ∀ b, b < 7 → a ≠ b → (TX10 a).2.1 ≠ (TX10 b).2.1 := by decide +kernel
theorem tyX10_ok : ∀ k, k < 7 → parseFieldDescriptor (TX10 k).2.2.1 = some (tyX10 k) := by decide +kernel
abbrev cX10_init : ByteArray := prog_12_method_1_code
def yX10_init : MethodName := ⟨RX10, "<init>", "()V"⟩
abbrev cX10_choose : ByteArray := prog_12_method_2_code
def yX10_choose : MethodName := ⟨RX10, "choose", "(LHotAtSeven$Book;IIII)V"⟩
abbrev cX10_lay : ByteArray := prog_12_method_3_code
def yX10_lay : MethodName := ⟨RX10, "lay", "(LHotAtSeven$Book;)V"⟩
abbrev cX10_isWarmed : ByteArray := prog_12_method_4_code
def yX10_isWarmed : MethodName := ⟨RX10, "isWarmed", "(LHotAtSeven$Book;)Z"⟩
abbrev cX10_agrees : ByteArray := prog_12_method_5_code
def yX10_agrees : MethodName := ⟨RX10, "agrees", "(LHotAtSeven$Book;LHotAtSeven$Way;)Z"⟩
def RX11 : String := "HotAtSeven"
def TX11 : u_T := fun k => match k with
  | 0 => ("HotAtSeven", "sheets", "LHotAtSeven$Sheets;", true)
  | 1 => ("HotAtSeven", "reader", "LHotAtSeven$Reader;", true)
  | 2 => ("HotAtSeven", "images", "[LHotAtSeven$Book;", true)
  | 3 => ("HotAtSeven", "usual", "LHotAtSeven$Kitchen;", true)
  | 4 => ("HotAtSeven", "other", "LHotAtSeven$Kitchen;", true)
  | 5 => ("HotAtSeven", "planner", "LHotAtSeven$Planner;", true)
  | 6 => ("HotAtSeven", "judging", "LHotAtSeven$Judge;", true)
  | 7 => ("HotAtSeven", "asker", "LHotAtSeven$Asker;", true)
  | 8 => ("HotAtSeven", "plan", "LHotAtSeven$Row;", true)
  | 9 => ("HotAtSeven", "trial", "LHotAtSeven$Row;", true)
  | 10 => ("HotAtSeven", "book", "LHotAtSeven$Book;", false)
  | 11 => ("HotAtSeven", "spare", "LHotAtSeven$Book;", false)
  | 12 => ("HotAtSeven", "status", "I", false)
  | 13 => ("HotAtSeven", "fault", "I", false)
  | 14 => ("HotAtSeven", "plannedBy", "I", false)
  | 15 => ("HotAtSeven", "planCost", "I", false)
  | _ => ("HotAtSeven", "countedFor", "I", false)
def tyX11 : Nat → FieldType := fun k => match k with
  | 0 => .object "HotAtSeven$Sheets"
  | 1 => .object "HotAtSeven$Reader"
  | 2 => .array (.object "HotAtSeven$Book")
  | 3 => .object "HotAtSeven$Kitchen"
  | 4 => .object "HotAtSeven$Kitchen"
  | 5 => .object "HotAtSeven$Planner"
  | 6 => .object "HotAtSeven$Judge"
  | 7 => .object "HotAtSeven$Asker"
  | 8 => .object "HotAtSeven$Row"
  | 9 => .object "HotAtSeven$Row"
  | 10 => .object "HotAtSeven$Book"
  | 11 => .object "HotAtSeven$Book"
  | 12 => .int
  | 13 => .int
  | 14 => .int
  | 15 => .int
  | _ => .int
abbrev wsX110 : List Cond := u_ws RX11 TX11 17
theorem nmX11 : ∀ a, a < 17 → ∀ b, b < 17 → a ≠ b → (TX11 a).2.1 ≠ (TX11 b).2.1 := by decide +kernel
theorem tyX11_ok : ∀ k, k < 17 → parseFieldDescriptor (TX11 k).2.2.1 = some (tyX11 k) := by decide +kernel
abbrev cX11_init : ByteArray := prog_1_method_1_code
def yX11_init : MethodName := ⟨RX11, "<init>", "()V"⟩
abbrev cX11_sheet : ByteArray := prog_1_method_2_code
def yX11_sheet : MethodName := ⟨RX11, "sheet", "(III)I"⟩
abbrev cX11_set : ByteArray := prog_1_method_3_code
def yX11_set : MethodName := ⟨RX11, "set", "(III)I"⟩
abbrev cX11_copy : ByteArray := prog_1_method_4_code
def yX11_copy : MethodName := ⟨RX11, "copy", "(IIIII)I"⟩
abbrev cX11_drop : ByteArray := prog_1_method_5_code
def yX11_drop : MethodName := ⟨RX11, "drop", "(I)I"⟩
abbrev cX11_feed : ByteArray := prog_1_method_6_code
def yX11_feed : MethodName := ⟨RX11, "feed", "(JI)I"⟩
abbrev cX11_book : ByteArray := prog_1_method_7_code
def yX11_book : MethodName := ⟨RX11, "book", "()I"⟩
abbrev cX11_fault : ByteArray := prog_1_method_8_code
def yX11_fault : MethodName := ⟨RX11, "fault", "()I"⟩
abbrev cX11_dish : ByteArray := prog_1_method_9_code
def yX11_dish : MethodName := ⟨RX11, "dish", "(II)I"⟩
abbrev cX11_step : ByteArray := prog_1_method_10_code
def yX11_step : MethodName := ⟨RX11, "step", "(II)I"⟩
abbrev cX11_gives : ByteArray := prog_1_method_11_code
def yX11_gives : MethodName := ⟨RX11, "gives", "(II)I"⟩
abbrev cX11_dinner : ByteArray := prog_1_method_12_code
def yX11_dinner : MethodName := ⟨RX11, "dinner", "(I)I"⟩
abbrev cX11_out : ByteArray := prog_1_method_13_code
def yX11_out : MethodName := ⟨RX11, "out", "(I)I"⟩
abbrev cX11_judge : ByteArray := prog_1_method_14_code
def yX11_judge : MethodName := ⟨RX11, "judge", "(III)I"⟩
abbrev cX11_least : ByteArray := prog_1_method_15_code
def yX11_least : MethodName := ⟨RX11, "least", "(II)I"⟩
abbrev cX11_begins : ByteArray := prog_1_method_16_code
def yX11_begins : MethodName := ⟨RX11, "begins", "(II)I"⟩
abbrev cX11_seven : ByteArray := prog_1_method_17_code
def yX11_seven : MethodName := ⟨RX11, "seven", "(I)I"⟩
abbrev cX11_earliest : ByteArray := prog_1_method_18_code
def yX11_earliest : MethodName := ⟨RX11, "earliest", "()I"⟩
abbrev cX11_heat : ByteArray := prog_1_method_19_code
def yX11_heat : MethodName := ⟨RX11, "heat", "(II)I"⟩
abbrev cX11_wanted : ByteArray := prog_1_method_20_code
def yX11_wanted : MethodName := ⟨RX11, "wanted", "(III)I"⟩
abbrev cX11_dinners : ByteArray := prog_1_method_21_code
def yX11_dinners : MethodName := ⟨RX11, "dinners", "(III)I"⟩
abbrev cX11_more : ByteArray := prog_1_method_22_code
def yX11_more : MethodName := ⟨RX11, "more", "(I)I"⟩
abbrev cX11_mend : ByteArray := prog_1_method_23_code
def yX11_mend : MethodName := ⟨RX11, "mend", "(II)I"⟩
abbrev cX11_slack : ByteArray := prog_1_method_24_code
def yX11_slack : MethodName := ⟨RX11, "slack", "(II)I"⟩
abbrev cX11_bears : ByteArray := prog_1_method_25_code
def yX11_bears : MethodName := ⟨RX11, "bears", "(III)I"⟩
abbrev cX11_mind : ByteArray := prog_1_method_26_code
def yX11_mind : MethodName := ⟨RX11, "mind", "(II)I"⟩
abbrev cX11_image : ByteArray := prog_1_method_27_code
def yX11_image : MethodName := ⟨RX11, "image", "(I)I"⟩
abbrev cX11_restore : ByteArray := prog_1_method_28_code
def yX11_restore : MethodName := ⟨RX11, "restore", "(I)I"⟩
abbrev cX11_kind : ByteArray := prog_1_method_29_code
def yX11_kind : MethodName := ⟨RX11, "kind", "(I)I"⟩
abbrev cX11_as : ByteArray := prog_1_method_30_code
def yX11_as : MethodName := ⟨RX11, "as", "(II)I"⟩
abbrev cX11_ask : ByteArray := prog_1_method_31_code
def yX11_ask : MethodName := ⟨RX11, "ask", "(II)I"⟩
abbrev cX11_trace : ByteArray := prog_1_method_32_code
def yX11_trace : MethodName := ⟨RX11, "trace", "(I)I"⟩
abbrev cX11_count : ByteArray := prog_1_method_33_code
def yX11_count : MethodName := ⟨RX11, "count", "(I)I"⟩
abbrev cX11_status : ByteArray := prog_1_method_34_code
def yX11_status : MethodName := ⟨RX11, "status", "()I"⟩
abbrev cX11_found : ByteArray := prog_1_method_35_code
def yX11_found : MethodName := ⟨RX11, "found", "(I)I"⟩
abbrev cX11_fine : ByteArray := prog_1_method_36_code
def yX11_fine : MethodName := ⟨RX11, "fine", "(I)I"⟩
abbrev cX11_refusal : ByteArray := prog_1_method_37_code
def yX11_refusal : MethodName := ⟨RX11, "refusal", "(Z)I"⟩
abbrev cX11_isTime : ByteArray := prog_1_method_38_code
def yX11_isTime : MethodName := ⟨RX11, "isTime", "(I)Z"⟩
abbrev cX11_isMinute : ByteArray := prog_1_method_39_code
def yX11_isMinute : MethodName := ⟨RX11, "isMinute", "(I)Z"⟩
abbrev cX11_changed : ByteArray := prog_1_method_40_code
def yX11_changed : MethodName := ⟨RX11, "changed", "()V"⟩
abbrev cX11_findsPlan : ByteArray := prog_1_method_41_code
def yX11_findsPlan : MethodName := ⟨RX11, "findsPlan", "(I)Z"⟩
abbrev cX11_isPossible : ByteArray := prog_1_method_42_code
def yX11_isPossible : MethodName := ⟨RX11, "isPossible", "(LHotAtSeven$Kitchen;II)Z"⟩
abbrev cX11_span : ByteArray := prog_1_method_43_code
def yX11_span : MethodName := ⟨RX11, "span", "(II)J"⟩
def RX12 : String := "HotAtSevenModel"
def TX12 : u_T := fun k => match k with
  | 0 => ("HotAtSevenModel", "thrown", "I", false)
  | 1 => ("HotAtSevenModel", "status", "I", false)
  | 2 => ("HotAtSevenModel", "lane", "[I", true)
  | 3 => ("HotAtSevenModel", "many", "[I", true)
  | 4 => ("HotAtSevenModel", "item", "[I", true)
  | 5 => ("HotAtSevenModel", "now", "[I", true)
  | 6 => ("HotAtSevenModel", "fresh", "[I", true)
  | 7 => ("HotAtSevenModel", "isThere", "Z", false)
  | 8 => ("HotAtSevenModel", "tape", "[I", true)
  | 9 => ("HotAtSevenModel", "taped", "I", false)
  | 10 => ("HotAtSevenModel", "latest", "I", false)
  | 11 => ("HotAtSevenModel", "length", "I", false)
  | 12 => ("HotAtSevenModel", "cursor", "I", false)
  | 13 => ("HotAtSevenModel", "token", "I", false)
  | 14 => ("HotAtSevenModel", "from", "I", false)
  | 15 => ("HotAtSevenModel", "till", "I", false)
  | 16 => ("HotAtSevenModel", "fault", "I", false)
  | 17 => ("HotAtSevenModel", "faultAt", "I", false)
  | 18 => ("HotAtSevenModel", "big", "[I", true)
  | 19 => ("HotAtSevenModel", "rings", "[I", true)
  | 20 => ("HotAtSevenModel", "shelves", "[I", true)
  | 21 => ("HotAtSevenModel", "hands", "[I", true)
  | 22 => ("HotAtSevenModel", "pans", "[I", true)
  | 23 => ("HotAtSevenModel", "low", "[I", true)
  | 24 => ("HotAtSevenModel", "high", "[I", true)
  | 25 => ("HotAtSevenModel", "list", "[I", true)
  | 26 => ("HotAtSevenModel", "choice", "[I", true)
  | 27 => ("HotAtSevenModel", "cost", "[I", true)
  | 28 => ("HotAtSevenModel", "begin", "[I", true)
  | 29 => ("HotAtSevenModel", "bestChoice", "[I", true)
  | 30 => ("HotAtSevenModel", "bestBegin", "[I", true)
  | 31 => ("HotAtSevenModel", "bestCost", "I", false)
  | 32 => ("HotAtSevenModel", "mendAt", "I", false)
  | 33 => ("HotAtSevenModel", "fixed", "[I", true)
  | 34 => ("HotAtSevenModel", "knownBy", "I", false)
  | 35 => ("HotAtSevenModel", "isKnown", "Z", false)
  | 36 => ("HotAtSevenModel", "leastCost", "I", false)
  | 37 => ("HotAtSevenModel", "leastChoice", "[I", true)
  | 38 => ("HotAtSevenModel", "leastBegin", "[I", true)
  | 39 => ("HotAtSevenModel", "rowLong", "I", false)
  | 40 => ("HotAtSevenModel", "rowStep", "[I", true)
  | 41 => ("HotAtSevenModel", "rowBegin", "[I", true)
  | 42 => ("HotAtSevenModel", "rowLonger", "[I", true)
  | 43 => ("HotAtSevenModel", "heatLow", "[I", true)
  | 44 => ("HotAtSevenModel", "heatHigh", "[I", true)
  | 45 => ("HotAtSevenModel", "isKept", "[Z", true)
  | 46 => ("HotAtSevenModel", "kept", "[I", true)
  | 47 => ("HotAtSevenModel", "trace", "[I", true)
  | _ => ("HotAtSevenModel", "traced", "I", false)
def tyX12 : Nat → FieldType := fun k => match k with
  | 0 => .int
  | 1 => .int
  | 2 => .array .int
  | 3 => .array .int
  | 4 => .array .int
  | 5 => .array .int
  | 6 => .array .int
  | 7 => .boolean
  | 8 => .array .int
  | 9 => .int
  | 10 => .int
  | 11 => .int
  | 12 => .int
  | 13 => .int
  | 14 => .int
  | 15 => .int
  | 16 => .int
  | 17 => .int
  | 18 => .array .int
  | 19 => .array .int
  | 20 => .array .int
  | 21 => .array .int
  | 22 => .array .int
  | 23 => .array .int
  | 24 => .array .int
  | 25 => .array .int
  | 26 => .array .int
  | 27 => .array .int
  | 28 => .array .int
  | 29 => .array .int
  | 30 => .array .int
  | 31 => .int
  | 32 => .int
  | 33 => .array .int
  | 34 => .int
  | 35 => .boolean
  | 36 => .int
  | 37 => .array .int
  | 38 => .array .int
  | 39 => .int
  | 40 => .array .int
  | 41 => .array .int
  | 42 => .array .int
  | 43 => .array .int
  | 44 => .array .int
  | 45 => .array .boolean
  | 46 => .array .int
  | 47 => .array .int
  | _ => .int
abbrev wsX120 : List Cond := u_ws RX12 TX12 49
theorem nmX12 : ∀ a, a < 49 → ∀ b, b < 49 → a ≠ b → (TX12 a).2.1 ≠ (TX12 b).2.1 := by decide +kernel
theorem tyX12_ok : ∀ k, k < 49 → parseFieldDescriptor (TX12 k).2.2.1 = some (tyX12 k) := by decide +kernel
abbrev cX12_init : ByteArray := prog_14_method_1_code
def yX12_init : MethodName := ⟨RX12, "<init>", "()V"⟩
abbrev cX12_in : ByteArray := prog_14_method_3_code
def yX12_in : MethodName := ⟨RX12, "in", "(JJJ)Z"⟩
abbrev cX12_finding : ByteArray := prog_14_method_4_code
def yX12_finding : MethodName := ⟨RX12, "finding", "(I)I"⟩
abbrev cX12_isSheet : ByteArray := prog_14_method_5_code
def yX12_isSheet : MethodName := ⟨RX12, "isSheet", "(I)Z"⟩
abbrev cX12_sheet : ByteArray := prog_14_method_6_code
def yX12_sheet : MethodName := ⟨RX12, "sheet", "(III)I"⟩
abbrev cX12_set : ByteArray := prog_14_method_7_code
def yX12_set : MethodName := ⟨RX12, "set", "(III)I"⟩
abbrev cX12_copy : ByteArray := prog_14_method_8_code
def yX12_copy : MethodName := ⟨RX12, "copy", "(IIIII)I"⟩
abbrev cX12_drop : ByteArray := prog_14_method_9_code
def yX12_drop : MethodName := ⟨RX12, "drop", "(I)I"⟩
abbrev cX12_feed : ByteArray := prog_14_method_10_code
def yX12_feed : MethodName := ⟨RX12, "feed", "(JI)I"⟩
abbrev cX12_byteAt : ByteArray := prog_14_method_11_code
def yX12_byteAt : MethodName := ⟨RX12, "byteAt", "(I)I"⟩
abbrev cX12_isLetter : ByteArray := prog_14_method_12_code
def yX12_isLetter : MethodName := ⟨RX12, "isLetter", "(I)Z"⟩
abbrev cX12_isFigure : ByteArray := prog_14_method_13_code
def yX12_isFigure : MethodName := ⟨RX12, "isFigure", "(I)Z"⟩
abbrev cX12_next : ByteArray := prog_14_method_14_code
def yX12_next : MethodName := ⟨RX12, "next", "()V"⟩
abbrev cX12_bad : ByteArray := prog_14_method_15_code
def yX12_bad : MethodName := ⟨RX12, "bad", "(I)V"⟩
abbrev cX12_must : ByteArray := prog_14_method_16_code
def yX12_must : MethodName := ⟨RX12, "must", "(Z)V"⟩
abbrev cX12_word : ByteArray := prog_14_method_17_code
def yX12_word : MethodName := ⟨RX12, "word", "()J"⟩
abbrev cX12_number : ByteArray := prog_14_method_18_code
def yX12_number : MethodName := ⟨RX12, "number", "(III)V"⟩
abbrev cX12_mustEnd : ByteArray := prog_14_method_19_code
def yX12_mustEnd : MethodName := ⟨RX12, "mustEnd", "()V"⟩
abbrev cX12_kindOfWord : ByteArray := prog_14_method_20_code
def yX12_kindOfWord : MethodName := ⟨RX12, "kindOfWord", "()I"⟩
abbrev cX12_readAway : ByteArray := prog_14_method_21_code
def yX12_readAway : MethodName := ⟨RX12, "readAway", "()V"⟩
abbrev cX12_readStep : ByteArray := prog_14_method_22_code
def yX12_readStep : MethodName := ⟨RX12, "readStep", "(II)V"⟩
abbrev cX12_readDish : ByteArray := prog_14_method_23_code
def yX12_readDish : MethodName := ⟨RX12, "readDish", "()V"⟩
abbrev cX12_book : ByteArray := prog_14_method_24_code
def yX12_book : MethodName := ⟨RX12, "book", "()I"⟩
abbrev cX12_fault : ByteArray := prog_14_method_25_code
def yX12_fault : MethodName := ⟨RX12, "fault", "()I"⟩
abbrev cX12_dishOf : ByteArray := prog_14_method_26_code
def yX12_dishOf : MethodName := ⟨RX12, "dishOf", "(II)I"⟩
abbrev cX12_stepOf : ByteArray := prog_14_method_27_code
def yX12_stepOf : MethodName := ⟨RX12, "stepOf", "(II)I"⟩
abbrev cX12_isDish : ByteArray := prog_14_method_28_code
def yX12_isDish : MethodName := ⟨RX12, "isDish", "(I)Z"⟩
abbrev cX12_isStep : ByteArray := prog_14_method_29_code
def yX12_isStep : MethodName := ⟨RX12, "isStep", "(I)Z"⟩
abbrev cX12_waitsOf : ByteArray := prog_14_method_30_code
def yX12_waitsOf : MethodName := ⟨RX12, "waitsOf", "(II)I"⟩
abbrev cX12_choicesOf : ByteArray := prog_14_method_31_code
def yX12_choicesOf : MethodName := ⟨RX12, "choicesOf", "(I)I"⟩
abbrev cX12_dish : ByteArray := prog_14_method_32_code
def yX12_dish : MethodName := ⟨RX12, "dish", "(II)I"⟩
abbrev cX12_step : ByteArray := prog_14_method_33_code
def yX12_step : MethodName := ⟨RX12, "step", "(II)I"⟩
abbrev cX12_bigOnes : ByteArray := prog_14_method_34_code
def yX12_bigOnes : MethodName := ⟨RX12, "bigOnes", "(II)I"⟩
abbrev cX12_handsAt : ByteArray := prog_14_method_35_code
def yX12_handsAt : MethodName := ⟨RX12, "handsAt", "(II)I"⟩
abbrev cX12_isMinute : ByteArray := prog_14_method_36_code
def yX12_isMinute : MethodName := ⟨RX12, "isMinute", "(I)Z"⟩
abbrev cX12_gives : ByteArray := prog_14_method_37_code
def yX12_gives : MethodName := ⟨RX12, "gives", "(II)I"⟩
abbrev cX12_bits : ByteArray := prog_14_method_38_code
def yX12_bits : MethodName := ⟨RX12, "bits", "(I)I"⟩
abbrev cX12_dinner : ByteArray := prog_14_method_39_code
def yX12_dinner : MethodName := ⟨RX12, "dinner", "(I)I"⟩
abbrev cX12_out : ByteArray := prog_14_method_40_code
def yX12_out : MethodName := ⟨RX12, "out", "(I)I"⟩
abbrev cX12_clearLevel : ByteArray := prog_14_method_41_code
def yX12_clearLevel : MethodName := ⟨RX12, "clearLevel", "()V"⟩
abbrev cX12_copyLevel : ByteArray := prog_14_method_42_code
def yX12_copyLevel : MethodName := ⟨RX12, "copyLevel", "(I)V"⟩
abbrev cX12_addStep : ByteArray := prog_14_method_43_code
def yX12_addStep : MethodName := ⟨RX12, "addStep", "(IIII)V"⟩
abbrev cX12_addPan : ByteArray := prog_14_method_44_code
def yX12_addPan : MethodName := ⟨RX12, "addPan", "(III)V"⟩
abbrev cX12_lacks : ByteArray := prog_14_method_45_code
def yX12_lacks : MethodName := ⟨RX12, "lacks", "(III)I"⟩
abbrev cX12_layBegins : ByteArray := prog_14_method_46_code
def yX12_layBegins : MethodName := ⟨RX12, "layBegins", "(II)Z"⟩
abbrev cX12_fits : ByteArray := prog_14_method_47_code
def yX12_fits : MethodName := ⟨RX12, "fits", "(IIII)Z"⟩
abbrev cX12_seek : ByteArray := prog_14_method_48_code
def yX12_seek : MethodName := ⟨RX12, "seek", "(IIIIZZ)Z"⟩
abbrev cX12_forget : ByteArray := prog_14_method_49_code
def yX12_forget : MethodName := ⟨RX12, "forget", "()V"⟩
abbrev cX12_isBy : ByteArray := prog_14_method_50_code
def yX12_isBy : MethodName := ⟨RX12, "isBy", "(I)Z"⟩
abbrev cX12_layRow : ByteArray := prog_14_method_51_code
def yX12_layRow : MethodName := ⟨RX12, "layRow", "()V"⟩
abbrev cX12_know : ByteArray := prog_14_method_52_code
def yX12_know : MethodName := ⟨RX12, "know", "(I)Z"⟩
abbrev cX12_least : ByteArray := prog_14_method_53_code
def yX12_least : MethodName := ⟨RX12, "least", "(II)I"⟩
abbrev cX12_begins : ByteArray := prog_14_method_54_code
def yX12_begins : MethodName := ⟨RX12, "begins", "(II)I"⟩
abbrev cX12_seven : ByteArray := prog_14_method_55_code
def yX12_seven : MethodName := ⟨RX12, "seven", "(I)I"⟩
abbrev cX12_canBe : ByteArray := prog_14_method_56_code
def yX12_canBe : MethodName := ⟨RX12, "canBe", "(III)Z"⟩
abbrev cX12_earliest : ByteArray := prog_14_method_57_code
def yX12_earliest : MethodName := ⟨RX12, "earliest", "()I"⟩
abbrev cX12_endOf : ByteArray := prog_14_method_58_code
def yX12_endOf : MethodName := ⟨RX12, "endOf", "(I)I"⟩
abbrev cX12_isFirst : ByteArray := prog_14_method_59_code
def yX12_isFirst : MethodName := ⟨RX12, "isFirst", "(I)Z"⟩
abbrev cX12_isLast : ByteArray := prog_14_method_60_code
def yX12_isLast : MethodName := ⟨RX12, "isLast", "(I)Z"⟩
abbrev cX12_dishBy : ByteArray := prog_14_method_61_code
def yX12_dishBy : MethodName := ⟨RX12, "dishBy", "(I)I"⟩
abbrev cX12_judged : ByteArray := prog_14_method_62_code
def yX12_judged : MethodName := ⟨RX12, "judged", "(I)I"⟩
abbrev cX12_judge : ByteArray := prog_14_method_63_code
def yX12_judge : MethodName := ⟨RX12, "judge", "(III)I"⟩
abbrev cX12_layPlan : ByteArray := prog_14_method_64_code
def yX12_layPlan : MethodName := ⟨RX12, "layPlan", "()V"⟩
abbrev cX12_heat : ByteArray := prog_14_method_65_code
def yX12_heat : MethodName := ⟨RX12, "heat", "(II)I"⟩
abbrev cX12_wanted : ByteArray := prog_14_method_66_code
def yX12_wanted : MethodName := ⟨RX12, "wanted", "(III)I"⟩
abbrev cX12_dinners : ByteArray := prog_14_method_67_code
def yX12_dinners : MethodName := ⟨RX12, "dinners", "(III)I"⟩
abbrev cX12_more : ByteArray := prog_14_method_68_code
def yX12_more : MethodName := ⟨RX12, "more", "(I)I"⟩
abbrev cX12_mend : ByteArray := prog_14_method_69_code
def yX12_mend : MethodName := ⟨RX12, "mend", "(II)I"⟩
abbrev cX12_slack : ByteArray := prog_14_method_70_code
def yX12_slack : MethodName := ⟨RX12, "slack", "(II)I"⟩
abbrev cX12_bears : ByteArray := prog_14_method_71_code
def yX12_bears : MethodName := ⟨RX12, "bears", "(III)I"⟩
abbrev cX12_mind : ByteArray := prog_14_method_72_code
def yX12_mind : MethodName := ⟨RX12, "mind", "(II)I"⟩
abbrev cX12_image : ByteArray := prog_14_method_73_code
def yX12_image : MethodName := ⟨RX12, "image", "(I)I"⟩
abbrev cX12_restore : ByteArray := prog_14_method_74_code
def yX12_restore : MethodName := ⟨RX12, "restore", "(I)I"⟩
abbrev cX12_kindOf : ByteArray := prog_14_method_75_code
def yX12_kindOf : MethodName := ⟨RX12, "kindOf", "(I)I"⟩
abbrev cX12_isOf : ByteArray := prog_14_method_76_code
def yX12_isOf : MethodName := ⟨RX12, "isOf", "(II)Z"⟩
abbrev cX12_kind : ByteArray := prog_14_method_77_code
def yX12_kind : MethodName := ⟨RX12, "kind", "(I)I"⟩
abbrev cX12_as : ByteArray := prog_14_method_78_code
def yX12_as : MethodName := ⟨RX12, "as", "(II)I"⟩
abbrev cX12_began : ByteArray := prog_14_method_79_code
def yX12_began : MethodName := ⟨RX12, "began", "(I)V"⟩
abbrev cX12_markOf : ByteArray := prog_14_method_80_code
def yX12_markOf : MethodName := ⟨RX12, "markOf", "(II)I"⟩
abbrev cX12_sizeOf : ByteArray := prog_14_method_81_code
def yX12_sizeOf : MethodName := ⟨RX12, "sizeOf", "(II)I"⟩
abbrev cX12_ask : ByteArray := prog_14_method_82_code
def yX12_ask : MethodName := ⟨RX12, "ask", "(II)I"⟩
abbrev cX12_trace : ByteArray := prog_14_method_83_code
def yX12_trace : MethodName := ⟨RX12, "trace", "(I)I"⟩
abbrev cX12_count : ByteArray := prog_14_method_84_code
def yX12_count : MethodName := ⟨RX12, "count", "(I)I"⟩
abbrev cX12_status : ByteArray := prog_14_method_85_code
def yX12_status : MethodName := ⟨RX12, "status", "()I"⟩
def RJx145de : String := "java/io/Serializable"
def TJx145de : u_T := fun k => match k with
  | _ => ("", "", "", false)
def tyJx145de : Nat → FieldType := fun k => match k with
  | _ => .int
abbrev wsJx145de0 : List Cond := u_ws RJx145de TJx145de 0
theorem nmJx145de : ∀ a, a < 0 → ∀ b, b < 0 → a ≠ b → (TJx145de a).2.1 ≠ (TJx145de b).2.1 := by decide +kernel
theorem tyJx145de_ok : ∀ k, k < 0 → parseFieldDescriptor (TJx145de k).2.2.1 = some (tyJx145de k) := by decide +kernel
def RJx9f9b0 : String := "java/lang/CharSequence"
def TJx9f9b0 : u_T := fun k => match k with
  | _ => ("", "", "", false)
def tyJx9f9b0 : Nat → FieldType := fun k => match k with
  | _ => .int
abbrev wsJx9f9b00 : List Cond := u_ws RJx9f9b0 TJx9f9b0 0
theorem nmJx9f9b0 : ∀ a, a < 0 → ∀ b, b < 0 → a ≠ b → (TJx9f9b0 a).2.1 ≠ (TJx9f9b0 b).2.1 := by decide +kernel
theorem tyJx9f9b0_ok : ∀ k, k < 0 → parseFieldDescriptor (TJx9f9b0 k).2.2.1 = some (tyJx9f9b0 k) := by decide +kernel
def RJxb160c : String := "java/lang/Comparable"
def TJxb160c : u_T := fun k => match k with
  | _ => ("", "", "", false)
def tyJxb160c : Nat → FieldType := fun k => match k with
  | _ => .int
abbrev wsJxb160c0 : List Cond := u_ws RJxb160c TJxb160c 0
theorem nmJxb160c : ∀ a, a < 0 → ∀ b, b < 0 → a ≠ b → (TJxb160c a).2.1 ≠ (TJxb160c b).2.1 := by decide +kernel
theorem tyJxb160c_ok : ∀ k, k < 0 → parseFieldDescriptor (TJxb160c k).2.2.1 = some (tyJxb160c k) := by decide +kernel
def RJ6 : String := "java/lang/Integer"
def TJ6 : u_T := fun k => match k with
  | _ => ("", "", "", false)
def tyJ6 : Nat → FieldType := fun k => match k with
  | _ => .int
abbrev wsJ60 : List Cond := u_ws RJ6 TJ6 0
theorem nmJ6 : ∀ a, a < 0 → ∀ b, b < 0 → a ≠ b → (TJ6 a).2.1 ≠ (TJ6 b).2.1 := by decide +kernel
theorem tyJ6_ok : ∀ k, k < 0 → parseFieldDescriptor (TJ6 k).2.2.1 = some (tyJ6 k) := by decide +kernel
abbrev cJ6_bitCount_0f7a4 : ByteArray := prog_15_method_49_code
def yJ6_bitCount_0f7a4 : MethodName := ⟨RJ6, "bitCount", "(I)I"⟩
def RJ9 : String := "java/lang/Math"
def TJ9 : u_T := fun k => match k with
  | _ => ("", "", "", false)
def tyJ9 : Nat → FieldType := fun k => match k with
  | _ => .int
abbrev wsJ90 : List Cond := u_ws RJ9 TJ9 0
theorem nmJ9 : ∀ a, a < 0 → ∀ b, b < 0 → a ≠ b → (TJ9 a).2.1 ≠ (TJ9 b).2.1 := by decide +kernel
theorem tyJ9_ok : ∀ k, k < 0 → parseFieldDescriptor (TJ9 k).2.2.1 = some (tyJ9 k) := by decide +kernel
abbrev cJ9_max_7cf53 : ByteArray := prog_16_method_65_code
def yJ9_max_7cf53 : MethodName := ⟨RJ9, "max", "(II)I"⟩
abbrev cJ9_min_7cf53 : ByteArray := prog_16_method_69_code
def yJ9_min_7cf53 : MethodName := ⟨RJ9, "min", "(II)I"⟩
def RJ0 : String := "java/lang/String"
def TJ0 : u_T := fun k => match k with
  | _ => ("", "", "", false)
def tyJ0 : Nat → FieldType := fun k => match k with
  | _ => .int
abbrev wsJ00 : List Cond := u_ws RJ0 TJ0 0
theorem nmJ0 : ∀ a, a < 0 → ∀ b, b < 0 → a ≠ b → (TJ0 a).2.1 ≠ (TJ0 b).2.1 := by decide +kernel
theorem tyJ0_ok : ∀ k, k < 0 → parseFieldDescriptor (TJ0 k).2.2.1 = some (tyJ0 k) := by decide +kernel
abbrev cJ0_length_8abf5 : ByteArray := prog_17_method_54_code
def yJ0_length_8abf5 : MethodName := ⟨RJ0, "length", "()I"⟩
abbrev cJ0_charAt_5068e : ByteArray := prog_17_method_56_code
def yJ0_charAt_5068e : MethodName := ⟨RJ0, "charAt", "(I)C"⟩
abbrev cJ0_coder_7d493 : ByteArray := prog_17_method_152_code
def yJ0_coder_7d493 : MethodName := ⟨RJ0, "coder", "()B"⟩
abbrev cJ0_isLatin1_aae02 : ByteArray := prog_17_method_154_code
def yJ0_isLatin1_aae02 : MethodName := ⟨RJ0, "isLatin1", "()Z"⟩
abbrev cJ0_checkIndex_df160 : ByteArray := prog_17_method_155_code
def yJ0_checkIndex_df160 : MethodName := ⟨RJ0, "checkIndex", "(II)V"⟩
def RJ1 : String := "java/lang/StringLatin1"
def TJ1 : u_T := fun k => match k with
  | _ => ("", "", "", false)
def tyJ1 : Nat → FieldType := fun k => match k with
  | _ => .int
abbrev wsJ10 : List Cond := u_ws RJ1 TJ1 0
theorem nmJ1 : ∀ a, a < 0 → ∀ b, b < 0 → a ≠ b → (TJ1 a).2.1 ≠ (TJ1 b).2.1 := by decide +kernel
theorem tyJ1_ok : ∀ k, k < 0 → parseFieldDescriptor (TJ1 k).2.2.1 = some (tyJ1 k) := by decide +kernel
abbrev cJ1_charAt_3b067 : ByteArray := prog_18_method_2_code
def yJ1_charAt_3b067 : MethodName := ⟨RJ1, "charAt", "([BI)C"⟩
def RJ2 : String := "java/lang/StringUTF16"
def TJ2 : u_T := fun k => match k with
  | _ => ("", "", "", false)
def tyJ2 : Nat → FieldType := fun k => match k with
  | _ => .int
abbrev wsJ20 : List Cond := u_ws RJ2 TJ2 0
theorem nmJ2 : ∀ a, a < 0 → ∀ b, b < 0 → a ≠ b → (TJ2 a).2.1 ≠ (TJ2 b).2.1 := by decide +kernel
theorem tyJ2_ok : ∀ k, k < 0 → parseFieldDescriptor (TJ2 k).2.2.1 = some (tyJ2 k) := by decide +kernel
abbrev cJ2_getChar_3b067 : ByteArray := prog_19_method_5_code
def yJ2_getChar_3b067 : MethodName := ⟨RJ2, "getChar", "([BI)C"⟩
abbrev cJ2_length_9d52b : ByteArray := prog_19_method_6_code
def yJ2_length_9d52b : MethodName := ⟨RJ2, "length", "([B)I"⟩
abbrev cJ2_charAt_3b067 : ByteArray := prog_19_method_83_code
def yJ2_charAt_3b067 : MethodName := ⟨RJ2, "charAt", "([BI)C"⟩
abbrev cJ2_checkIndex_2214a : ByteArray := prog_19_method_91_code
def yJ2_checkIndex_2214a : MethodName := ⟨RJ2, "checkIndex", "(I[B)V"⟩
def RJ10 : String := "java/lang/System"
def TJ10 : u_T := fun k => match k with
  | _ => ("", "", "", false)
def tyJ10 : Nat → FieldType := fun k => match k with
  | _ => .int
abbrev wsJ100 : List Cond := u_ws RJ10 TJ10 0
theorem nmJ10 : ∀ a, a < 0 → ∀ b, b < 0 → a ≠ b → (TJ10 a).2.1 ≠ (TJ10 b).2.1 := by decide +kernel
theorem tyJ10_ok : ∀ k, k < 0 → parseFieldDescriptor (TJ10 k).2.2.1 = some (tyJ10 k) := by decide +kernel
def RJxfd54e : String := "java/lang/constant/Constable"
def TJxfd54e : u_T := fun k => match k with
  | _ => ("", "", "", false)
def tyJxfd54e : Nat → FieldType := fun k => match k with
  | _ => .int
abbrev wsJxfd54e0 : List Cond := u_ws RJxfd54e TJxfd54e 0
theorem nmJxfd54e : ∀ a, a < 0 → ∀ b, b < 0 → a ≠ b → (TJxfd54e a).2.1 ≠ (TJxfd54e b).2.1 := by decide +kernel
theorem tyJxfd54e_ok : ∀ k, k < 0 → parseFieldDescriptor (TJxfd54e k).2.2.1 = some (tyJxfd54e k) := by decide +kernel
def RJx3cf43 : String := "java/lang/constant/ConstantDesc"
def TJx3cf43 : u_T := fun k => match k with
  | _ => ("", "", "", false)
def tyJx3cf43 : Nat → FieldType := fun k => match k with
  | _ => .int
abbrev wsJx3cf430 : List Cond := u_ws RJx3cf43 TJx3cf43 0
theorem nmJx3cf43 : ∀ a, a < 0 → ∀ b, b < 0 → a ≠ b → (TJx3cf43 a).2.1 ≠ (TJx3cf43 b).2.1 := by decide +kernel
theorem tyJx3cf43_ok : ∀ k, k < 0 → parseFieldDescriptor (TJx3cf43 k).2.2.1 = some (tyJx3cf43 k) := by decide +kernel
def RJ7 : String := "java/util/Arrays"
def TJ7 : u_T := fun k => match k with
  | _ => ("", "", "", false)
def tyJ7 : Nat → FieldType := fun k => match k with
  | _ => .int
abbrev wsJ70 : List Cond := u_ws RJ7 TJ7 0
theorem nmJ7 : ∀ a, a < 0 → ∀ b, b < 0 → a ≠ b → (TJ7 a).2.1 ≠ (TJ7 b).2.1 := by decide +kernel
theorem tyJ7_ok : ∀ k, k < 0 → parseFieldDescriptor (TJ7 k).2.2.1 = some (tyJ7 k) := by decide +kernel
abbrev cJ7_fill_d0a16 : ByteArray := prog_21_method_101_code
def yJ7_fill_d0a16 : MethodName := ⟨RJ7, "fill", "([JJ)V"⟩
abbrev cJ7_fill_53178 : ByteArray := prog_21_method_103_code
def yJ7_fill_53178 : MethodName := ⟨RJ7, "fill", "([II)V"⟩
def RJ3 : String := "jdk/internal/util/Preconditions"
def TJ3 : u_T := fun k => match k with
  | _ => ("", "", "", false)
def tyJ3 : Nat → FieldType := fun k => match k with
  | _ => .int
abbrev wsJ30 : List Cond := u_ws RJ3 TJ3 0
theorem nmJ3 : ∀ a, a < 0 → ∀ b, b < 0 → a ≠ b → (TJ3 a).2.1 ≠ (TJ3 b).2.1 := by decide +kernel
theorem tyJ3_ok : ∀ k, k < 0 → parseFieldDescriptor (TJ3 k).2.2.1 = some (tyJ3 k) := by decide +kernel
abbrev cJ3_checkIndex_8e157 : ByteArray := prog_22_method_11_code
def yJ3_checkIndex_8e157 : MethodName := ⟨RJ3, "checkIndex", "(IILjava/util/function/BiFunction;)I"⟩
def RL : String := "HotAtSevenLaw"
abbrev cL_law : ByteArray := code
def yL_law : MethodName := ⟨RL, "law", "([I)Z"⟩
set_option maxRecDepth 20000 in
theorem inX0 : ∀ w ∈ wsX00, w ∈ lw_tbl := by decide +kernel
set_option maxRecDepth 20000 in
theorem inX1 : ∀ w ∈ wsX10, w ∈ lw_tbl := by decide +kernel
set_option maxRecDepth 20000 in
theorem inX2 : ∀ w ∈ wsX20, w ∈ lw_tbl := by decide +kernel
set_option maxRecDepth 20000 in
theorem inX3 : ∀ w ∈ wsX30, w ∈ lw_tbl := by decide +kernel
set_option maxRecDepth 20000 in
theorem inX4 : ∀ w ∈ wsX40, w ∈ lw_tbl := by decide +kernel
set_option maxRecDepth 20000 in
theorem inX5 : ∀ w ∈ wsX50, w ∈ lw_tbl := by decide +kernel
set_option maxRecDepth 20000 in
theorem inX6 : ∀ w ∈ wsX60, w ∈ lw_tbl := by decide +kernel
set_option maxRecDepth 20000 in
theorem inX7 : ∀ w ∈ wsX70, w ∈ lw_tbl := by decide +kernel
set_option maxRecDepth 20000 in
theorem inX8 : ∀ w ∈ wsX80, w ∈ lw_tbl := by decide +kernel
set_option maxRecDepth 20000 in
theorem inX9 : ∀ w ∈ wsX90, w ∈ lw_tbl := by decide +kernel
set_option maxRecDepth 20000 in
theorem inX10 : ∀ w ∈ wsX100, w ∈ lw_tbl := by decide +kernel
set_option maxRecDepth 20000 in
theorem inX11 : ∀ w ∈ wsX110, w ∈ lw_tbl := by decide +kernel
set_option maxRecDepth 20000 in
theorem inX12 : ∀ w ∈ wsX120, w ∈ lw_tbl := by decide +kernel
