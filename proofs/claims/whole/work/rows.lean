section
/-- a private method of a class that the tables say can be made, by its rows of tables_1 -/
def lw_okq (q : MethodName × Nat) : Prop := (q.1.cls ≠ "java/lang/invoke/MethodHandle" ∧ q.1.cls ≠ "java/lang/invoke/VarHandle") ∧ Cond.instantiable q.1.cls q.2 ∈ tables_1 ∧ Cond.privateMethod q.1 ∈ tables_1 ∧ Cond.instanceMethod q.1 ∈ tables_1
theorem lw_p0 : lw_okq (⟨"HeapBench", "deny", "(I)Z"⟩, 12) := ⟨⟨by decide +kernel, by decide +kernel⟩, List.mem_of_getElem? (i := 19) (by decide +kernel), List.mem_of_getElem? (i := 326) (by decide +kernel), List.mem_of_getElem? (i := 327) (by decide +kernel)⟩
theorem lw_p1 : lw_okq (⟨"HeapBench", "change", "()V"⟩, 12) := ⟨⟨by decide +kernel, by decide +kernel⟩, List.mem_of_getElem? (i := 19) (by decide +kernel), List.mem_of_getElem? (i := 330) (by decide +kernel), List.mem_of_getElem? (i := 331) (by decide +kernel)⟩
theorem lw_p2 : lw_okq (⟨"HeapBench", "isCouple", "(II)Z"⟩, 12) := ⟨⟨by decide +kernel, by decide +kernel⟩, List.mem_of_getElem? (i := 19) (by decide +kernel), List.mem_of_getElem? (i := 362) (by decide +kernel), List.mem_of_getElem? (i := 363) (by decide +kernel)⟩
theorem lw_p3 : lw_okq (⟨"HeapBench", "isThing", "(I)Z"⟩, 12) := ⟨⟨by decide +kernel, by decide +kernel⟩, List.mem_of_getElem? (i := 19) (by decide +kernel), List.mem_of_getElem? (i := 366) (by decide +kernel), List.mem_of_getElem? (i := 367) (by decide +kernel)⟩
theorem lw_p4 : lw_okq (⟨"HeapBench", "refuse", "(I)I"⟩, 12) := ⟨⟨by decide +kernel, by decide +kernel⟩, List.mem_of_getElem? (i := 19) (by decide +kernel), List.mem_of_getElem? (i := 370) (by decide +kernel), List.mem_of_getElem? (i := 371) (by decide +kernel)⟩
theorem lw_p5 : lw_okq (⟨"HeapBench$Search", "costAllHeaps", "()V"⟩, 8) := ⟨⟨by decide +kernel, by decide +kernel⟩, List.mem_of_getElem? (i := 177) (by decide +kernel), List.mem_of_getElem? (i := 535) (by decide +kernel), List.mem_of_getElem? (i := 536) (by decide +kernel)⟩
theorem lw_p6 : lw_okq (⟨"HeapBench$Search", "descend", "(IIJ)V"⟩, 8) := ⟨⟨by decide +kernel, by decide +kernel⟩, List.mem_of_getElem? (i := 177) (by decide +kernel), List.mem_of_getElem? (i := 543) (by decide +kernel), List.mem_of_getElem? (i := 544) (by decide +kernel)⟩
theorem lw_p7 : lw_okq (⟨"HeapBench$Search", "take", "(IJ)V"⟩, 8) := ⟨⟨by decide +kernel, by decide +kernel⟩, List.mem_of_getElem? (i := 177) (by decide +kernel), List.mem_of_getElem? (i := 547) (by decide +kernel), List.mem_of_getElem? (i := 548) (by decide +kernel)⟩
theorem lw_p8 : lw_okq (⟨"HeapBench$Search", "grown", "(JII)J"⟩, 8) := ⟨⟨by decide +kernel, by decide +kernel⟩, List.mem_of_getElem? (i := 177) (by decide +kernel), List.mem_of_getElem? (i := 552) (by decide +kernel), List.mem_of_getElem? (i := 553) (by decide +kernel)⟩
theorem lw_p9 : lw_okq (⟨"HeapBench$Line", "flatten", "(LHeapBench$Scene;)V"⟩, 4) := ⟨⟨by decide +kernel, by decide +kernel⟩, List.mem_of_getElem? (i := 208) (by decide +kernel), List.mem_of_getElem? (i := 566) (by decide +kernel), List.mem_of_getElem? (i := 567) (by decide +kernel)⟩
theorem lw_p10 : lw_okq (⟨"HeapBench$Line", "sortThings", "(LHeapBench$Scene;)V"⟩, 4) := ⟨⟨by decide +kernel, by decide +kernel⟩, List.mem_of_getElem? (i := 208) (by decide +kernel), List.mem_of_getElem? (i := 576) (by decide +kernel), List.mem_of_getElem? (i := 577) (by decide +kernel)⟩
theorem lw_p11 : lw_okq (⟨"HeapBench$Line", "costAllSpans", "(I)V"⟩, 4) := ⟨⟨by decide +kernel, by decide +kernel⟩, List.mem_of_getElem? (i := 208) (by decide +kernel), List.mem_of_getElem? (i := 580) (by decide +kernel), List.mem_of_getElem? (i := 581) (by decide +kernel)⟩
theorem lw_p12 : lw_okq (⟨"HeapBench$Line", "costOf", "(II)J"⟩, 4) := ⟨⟨by decide +kernel, by decide +kernel⟩, List.mem_of_getElem? (i := 208) (by decide +kernel), List.mem_of_getElem? (i := 592) (by decide +kernel), List.mem_of_getElem? (i := 593) (by decide +kernel)⟩
theorem lw_p13 : lw_okq (⟨"HeapBench$Line", "endsAt", "(II)Z"⟩, 4) := ⟨⟨by decide +kernel, by decide +kernel⟩, List.mem_of_getElem? (i := 208) (by decide +kernel), List.mem_of_getElem? (i := 596) (by decide +kernel), List.mem_of_getElem? (i := 597) (by decide +kernel)⟩
theorem lw_p14 : lw_okq (⟨"HeapBench$Line", "partBy", "(I)V"⟩, 4) := ⟨⟨by decide +kernel, by decide +kernel⟩, List.mem_of_getElem? (i := 208) (by decide +kernel), List.mem_of_getElem? (i := 602) (by decide +kernel), List.mem_of_getElem? (i := 603) (by decide +kernel)⟩
theorem lw_p15 : lw_okq (⟨"HeapBench$Moves", "makeBestMove", "(LHeapBench$Scene;I)Z"⟩, 3) := ⟨⟨by decide +kernel, by decide +kernel⟩, List.mem_of_getElem? (i := 231) (by decide +kernel), List.mem_of_getElem? (i := 621) (by decide +kernel), List.mem_of_getElem? (i := 622) (by decide +kernel)⟩
def lw_privs_1 : List (MethodName × Nat) := [(⟨"HeapBench", "deny", "(I)Z"⟩, 12), (⟨"HeapBench", "change", "()V"⟩, 12), (⟨"HeapBench", "isCouple", "(II)Z"⟩, 12), (⟨"HeapBench", "isThing", "(I)Z"⟩, 12), (⟨"HeapBench", "refuse", "(I)I"⟩, 12), (⟨"HeapBench$Search", "costAllHeaps", "()V"⟩, 8), (⟨"HeapBench$Search", "descend", "(IIJ)V"⟩, 8), (⟨"HeapBench$Search", "take", "(IJ)V"⟩, 8), (⟨"HeapBench$Search", "grown", "(JII)J"⟩, 8), (⟨"HeapBench$Line", "flatten", "(LHeapBench$Scene;)V"⟩, 4), (⟨"HeapBench$Line", "sortThings", "(LHeapBench$Scene;)V"⟩, 4), (⟨"HeapBench$Line", "costAllSpans", "(I)V"⟩, 4), (⟨"HeapBench$Line", "costOf", "(II)J"⟩, 4), (⟨"HeapBench$Line", "endsAt", "(II)Z"⟩, 4), (⟨"HeapBench$Line", "partBy", "(I)V"⟩, 4), (⟨"HeapBench$Moves", "makeBestMove", "(LHeapBench$Scene;I)Z"⟩, 3)]
theorem lw_r1 : ∀ q ∈ lw_privs_1, lw_okq q := List.forall_mem_cons.mpr ⟨lw_p0, List.forall_mem_cons.mpr ⟨lw_p1, List.forall_mem_cons.mpr ⟨lw_p2, List.forall_mem_cons.mpr ⟨lw_p3, List.forall_mem_cons.mpr ⟨lw_p4, List.forall_mem_cons.mpr ⟨lw_p5, List.forall_mem_cons.mpr ⟨lw_p6, List.forall_mem_cons.mpr ⟨lw_p7, List.forall_mem_cons.mpr ⟨lw_p8, List.forall_mem_cons.mpr ⟨lw_p9, List.forall_mem_cons.mpr ⟨lw_p10, List.forall_mem_cons.mpr ⟨lw_p11, List.forall_mem_cons.mpr ⟨lw_p12, List.forall_mem_cons.mpr ⟨lw_p13, List.forall_mem_cons.mpr ⟨lw_p14, List.forall_mem_cons.mpr ⟨lw_p15, fun _ h => absurd h List.not_mem_nil⟩⟩⟩⟩⟩⟩⟩⟩⟩⟩⟩⟩⟩⟩⟩⟩
theorem lw_p16 : lw_okq (⟨"HeapBench$Moves", "weighHeaps", "(LHeapBench$Scene;I)V"⟩, 3) := ⟨⟨by decide +kernel, by decide +kernel⟩, List.mem_of_getElem? (i := 231) (by decide +kernel), List.mem_of_getElem? (i := 625) (by decide +kernel), List.mem_of_getElem? (i := 626) (by decide +kernel)⟩
theorem lw_p17 : lw_okq (⟨"HeapBench$Moves", "costAfter", "(LHeapBench$Scene;III)J"⟩, 3) := ⟨⟨by decide +kernel, by decide +kernel⟩, List.mem_of_getElem? (i := 231) (by decide +kernel), List.mem_of_getElem? (i := 633) (by decide +kernel), List.mem_of_getElem? (i := 634) (by decide +kernel)⟩
theorem lw_p18 : lw_okq (⟨"HeapBench$Scene", "farthestFromCentre", "()I"⟩, 6) := ⟨⟨by decide +kernel, by decide +kernel⟩, List.mem_of_getElem? (i := 27) (by decide +kernel), List.mem_of_getElem? (i := 651) (by decide +kernel), List.mem_of_getElem? (i := 652) (by decide +kernel)⟩
theorem lw_p19 : lw_okq (⟨"HeapBench$Scene", "wayToCentre", "(I)I"⟩, 6) := ⟨⟨by decide +kernel, by decide +kernel⟩, List.mem_of_getElem? (i := 27) (by decide +kernel), List.mem_of_getElem? (i := 655) (by decide +kernel), List.mem_of_getElem? (i := 656) (by decide +kernel)⟩
theorem lw_p20 : lw_okq (⟨"HeapBench$Scene", "gatherNearer", "(I)V"⟩, 6) := ⟨⟨by decide +kernel, by decide +kernel⟩, List.mem_of_getElem? (i := 27) (by decide +kernel), List.mem_of_getElem? (i := 660) (by decide +kernel), List.mem_of_getElem? (i := 661) (by decide +kernel)⟩
theorem lw_p21 : lw_okq (⟨"HeapBench$Likes", "sumOver", "(LHeapBench$Scene;I)J"⟩, 2) := ⟨⟨by decide +kernel, by decide +kernel⟩, List.mem_of_getElem? (i := 247) (by decide +kernel), List.mem_of_getElem? (i := 698) (by decide +kernel), List.mem_of_getElem? (i := 699) (by decide +kernel)⟩
theorem lw_p22 : lw_okq (⟨"HeapBench$Tree", "findLowest", "()V"⟩, 7) := ⟨⟨by decide +kernel, by decide +kernel⟩, List.mem_of_getElem? (i := 142) (by decide +kernel), List.mem_of_getElem? (i := 729) (by decide +kernel), List.mem_of_getElem? (i := 730) (by decide +kernel)⟩
theorem lw_p23 : lw_okq (⟨"HeapBench$Tree", "joinLowest", "(I)V"⟩, 7) := ⟨⟨by decide +kernel, by decide +kernel⟩, List.mem_of_getElem? (i := 142) (by decide +kernel), List.mem_of_getElem? (i := 735) (by decide +kernel), List.mem_of_getElem? (i := 736) (by decide +kernel)⟩
theorem lw_p24 : lw_okq (⟨"HeapBench", "keepFault", "(I)I"⟩, 12) := ⟨⟨by decide +kernel, by decide +kernel⟩, List.mem_of_getElem? (i := 19) (by decide +kernel), List.mem_of_getElem? (i := 801) (by decide +kernel), List.mem_of_getElem? (i := 802) (by decide +kernel)⟩
theorem lw_p25 : lw_okq (⟨"HeapBenchModel", "begin", "(I)V"⟩, 25) := ⟨⟨by decide +kernel, by decide +kernel⟩, List.mem_of_getElem? (i := 841) (by decide +kernel), List.mem_of_getElem? (i := 847) (by decide +kernel), List.mem_of_getElem? (i := 848) (by decide +kernel)⟩
theorem lw_p26 : lw_okq (⟨"HeapBenchModel", "no", "(I)I"⟩, 25) := ⟨⟨by decide +kernel, by decide +kernel⟩, List.mem_of_getElem? (i := 841) (by decide +kernel), List.mem_of_getElem? (i := 932) (by decide +kernel), List.mem_of_getElem? (i := 933) (by decide +kernel)⟩
theorem lw_p27 : lw_okq (⟨"HeapBenchModel", "change", "()V"⟩, 25) := ⟨⟨by decide +kernel, by decide +kernel⟩, List.mem_of_getElem? (i := 841) (by decide +kernel), List.mem_of_getElem? (i := 936) (by decide +kernel), List.mem_of_getElem? (i := 937) (by decide +kernel)⟩
theorem lw_p28 : lw_okq (⟨"HeapBenchModel", "copy", "(II)V"⟩, 25) := ⟨⟨by decide +kernel, by decide +kernel⟩, List.mem_of_getElem? (i := 841) (by decide +kernel), List.mem_of_getElem? (i := 940) (by decide +kernel), List.mem_of_getElem? (i := 941) (by decide +kernel)⟩
theorem lw_p29 : lw_okq (⟨"HeapBenchModel", "arePair", "(II)Z"⟩, 25) := ⟨⟨by decide +kernel, by decide +kernel⟩, List.mem_of_getElem? (i := 841) (by decide +kernel), List.mem_of_getElem? (i := 948) (by decide +kernel), List.mem_of_getElem? (i := 949) (by decide +kernel)⟩
theorem lw_p30 : lw_okq (⟨"HeapBenchModel", "isThing", "(I)Z"⟩, 25) := ⟨⟨by decide +kernel, by decide +kernel⟩, List.mem_of_getElem? (i := 841) (by decide +kernel), List.mem_of_getElem? (i := 952) (by decide +kernel), List.mem_of_getElem? (i := 953) (by decide +kernel)⟩
theorem lw_p31 : lw_okq (⟨"HeapBenchModel", "n", "()I"⟩, 25) := ⟨⟨by decide +kernel, by decide +kernel⟩, List.mem_of_getElem? (i := 841) (by decide +kernel), List.mem_of_getElem? (i := 956) (by decide +kernel), List.mem_of_getElem? (i := 957) (by decide +kernel)⟩
def lw_privs_2 : List (MethodName × Nat) := [(⟨"HeapBench$Moves", "weighHeaps", "(LHeapBench$Scene;I)V"⟩, 3), (⟨"HeapBench$Moves", "costAfter", "(LHeapBench$Scene;III)J"⟩, 3), (⟨"HeapBench$Scene", "farthestFromCentre", "()I"⟩, 6), (⟨"HeapBench$Scene", "wayToCentre", "(I)I"⟩, 6), (⟨"HeapBench$Scene", "gatherNearer", "(I)V"⟩, 6), (⟨"HeapBench$Likes", "sumOver", "(LHeapBench$Scene;I)J"⟩, 2), (⟨"HeapBench$Tree", "findLowest", "()V"⟩, 7), (⟨"HeapBench$Tree", "joinLowest", "(I)V"⟩, 7), (⟨"HeapBench", "keepFault", "(I)I"⟩, 12), (⟨"HeapBenchModel", "begin", "(I)V"⟩, 25), (⟨"HeapBenchModel", "no", "(I)I"⟩, 25), (⟨"HeapBenchModel", "change", "()V"⟩, 25), (⟨"HeapBenchModel", "copy", "(II)V"⟩, 25), (⟨"HeapBenchModel", "arePair", "(II)Z"⟩, 25), (⟨"HeapBenchModel", "isThing", "(I)Z"⟩, 25), (⟨"HeapBenchModel", "n", "()I"⟩, 25)]
theorem lw_r2 : ∀ q ∈ lw_privs_2, lw_okq q := List.forall_mem_cons.mpr ⟨lw_p16, List.forall_mem_cons.mpr ⟨lw_p17, List.forall_mem_cons.mpr ⟨lw_p18, List.forall_mem_cons.mpr ⟨lw_p19, List.forall_mem_cons.mpr ⟨lw_p20, List.forall_mem_cons.mpr ⟨lw_p21, List.forall_mem_cons.mpr ⟨lw_p22, List.forall_mem_cons.mpr ⟨lw_p23, List.forall_mem_cons.mpr ⟨lw_p24, List.forall_mem_cons.mpr ⟨lw_p25, List.forall_mem_cons.mpr ⟨lw_p26, List.forall_mem_cons.mpr ⟨lw_p27, List.forall_mem_cons.mpr ⟨lw_p28, List.forall_mem_cons.mpr ⟨lw_p29, List.forall_mem_cons.mpr ⟨lw_p30, List.forall_mem_cons.mpr ⟨lw_p31, fun _ h => absurd h List.not_mem_nil⟩⟩⟩⟩⟩⟩⟩⟩⟩⟩⟩⟩⟩⟩⟩⟩
theorem lw_p32 : lw_okq (⟨"HeapBenchModel", "setWay", "(III)V"⟩, 25) := ⟨⟨by decide +kernel, by decide +kernel⟩, List.mem_of_getElem? (i := 841) (by decide +kernel), List.mem_of_getElem? (i := 960) (by decide +kernel), List.mem_of_getElem? (i := 961) (by decide +kernel)⟩
theorem lw_p33 : lw_okq (⟨"HeapBenchModel", "heaps", "([I)I"⟩, 25) := ⟨⟨by decide +kernel, by decide +kernel⟩, List.mem_of_getElem? (i := 841) (by decide +kernel), List.mem_of_getElem? (i := 992) (by decide +kernel), List.mem_of_getElem? (i := 993) (by decide +kernel)⟩
theorem lw_p34 : lw_okq (⟨"HeapBenchModel", "takeNow", "()V"⟩, 25) := ⟨⟨by decide +kernel, by decide +kernel⟩, List.mem_of_getElem? (i := 841) (by decide +kernel), List.mem_of_getElem? (i := 996) (by decide +kernel), List.mem_of_getElem? (i := 997) (by decide +kernel)⟩
theorem lw_p35 : lw_okq (⟨"HeapBenchModel", "number", "([I)I"⟩, 25) := ⟨⟨by decide +kernel, by decide +kernel⟩, List.mem_of_getElem? (i := 841) (by decide +kernel), List.mem_of_getElem? (i := 1000) (by decide +kernel), List.mem_of_getElem? (i := 1001) (by decide +kernel)⟩
theorem lw_p36 : lw_okq (⟨"HeapBenchModel", "become", "([I)V"⟩, 25) := ⟨⟨by decide +kernel, by decide +kernel⟩, List.mem_of_getElem? (i := 841) (by decide +kernel), List.mem_of_getElem? (i := 1004) (by decide +kernel), List.mem_of_getElem? (i := 1005) (by decide +kernel)⟩
theorem lw_p37 : lw_okq (⟨"HeapBenchModel", "useWays", "()V"⟩, 25) := ⟨⟨by decide +kernel, by decide +kernel⟩, List.mem_of_getElem? (i := 841) (by decide +kernel), List.mem_of_getElem? (i := 1027) (by decide +kernel), List.mem_of_getElem? (i := 1028) (by decide +kernel)⟩
theorem lw_p38 : lw_okq (⟨"HeapBenchModel", "costOf", "([II)J"⟩, 25) := ⟨⟨by decide +kernel, by decide +kernel⟩, List.mem_of_getElem? (i := 841) (by decide +kernel), List.mem_of_getElem? (i := 1031) (by decide +kernel), List.mem_of_getElem? (i := 1032) (by decide +kernel)⟩
theorem lw_p39 : lw_okq (⟨"HeapBenchModel", "middleOf", "([II)I"⟩, 25) := ⟨⟨by decide +kernel, by decide +kernel⟩, List.mem_of_getElem? (i := 841) (by decide +kernel), List.mem_of_getElem? (i := 1035) (by decide +kernel), List.mem_of_getElem? (i := 1036) (by decide +kernel)⟩
theorem lw_p40 : lw_okq (⟨"HeapBenchModel", "sumTo", "([III)I"⟩, 25) := ⟨⟨by decide +kernel, by decide +kernel⟩, List.mem_of_getElem? (i := 841) (by decide +kernel), List.mem_of_getElem? (i := 1039) (by decide +kernel), List.mem_of_getElem? (i := 1040) (by decide +kernel)⟩
theorem lw_p41 : lw_okq (⟨"HeapBenchModel", "search", "(III)J"⟩, 25) := ⟨⟨by decide +kernel, by decide +kernel⟩, List.mem_of_getElem? (i := 841) (by decide +kernel), List.mem_of_getElem? (i := 1052) (by decide +kernel), List.mem_of_getElem? (i := 1053) (by decide +kernel)⟩
theorem lw_p42 : lw_okq (⟨"HeapBenchModel", "next", "()Z"⟩, 25) := ⟨⟨by decide +kernel, by decide +kernel⟩, List.mem_of_getElem? (i := 841) (by decide +kernel), List.mem_of_getElem? (i := 1057) (by decide +kernel), List.mem_of_getElem? (i := 1058) (by decide +kernel)⟩
theorem lw_p43 : lw_okq (⟨"HeapBenchModel", "isAhead", "([I[I)Z"⟩, 25) := ⟨⟨by decide +kernel, by decide +kernel⟩, List.mem_of_getElem? (i := 841) (by decide +kernel), List.mem_of_getElem? (i := 1066) (by decide +kernel), List.mem_of_getElem? (i := 1067) (by decide +kernel)⟩
theorem lw_p44 : lw_okq (⟨"HeapBenchModel", "nearest", "(II)I"⟩, 25) := ⟨⟨by decide +kernel, by decide +kernel⟩, List.mem_of_getElem? (i := 841) (by decide +kernel), List.mem_of_getElem? (i := 1082) (by decide +kernel), List.mem_of_getElem? (i := 1083) (by decide +kernel)⟩
theorem lw_p45 : lw_okq (⟨"HeapBenchModel", "gather", "([I)J"⟩, 25) := ⟨⟨by decide +kernel, by decide +kernel⟩, List.mem_of_getElem? (i := 841) (by decide +kernel), List.mem_of_getElem? (i := 1091) (by decide +kernel), List.mem_of_getElem? (i := 1092) (by decide +kernel)⟩
theorem lw_p46 : lw_okq (⟨"HeapBenchModel", "like", "(II)Z"⟩, 25) := ⟨⟨by decide +kernel, by decide +kernel⟩, List.mem_of_getElem? (i := 841) (by decide +kernel), List.mem_of_getElem? (i := 1095) (by decide +kernel), List.mem_of_getElem? (i := 1096) (by decide +kernel)⟩
theorem lw_p47 : lw_okq (⟨"HeapBenchModel", "orders", "(I)J"⟩, 25) := ⟨⟨by decide +kernel, by decide +kernel⟩, List.mem_of_getElem? (i := 841) (by decide +kernel), List.mem_of_getElem? (i := 1103) (by decide +kernel), List.mem_of_getElem? (i := 1104) (by decide +kernel)⟩
def lw_privs_3 : List (MethodName × Nat) := [(⟨"HeapBenchModel", "setWay", "(III)V"⟩, 25), (⟨"HeapBenchModel", "heaps", "([I)I"⟩, 25), (⟨"HeapBenchModel", "takeNow", "()V"⟩, 25), (⟨"HeapBenchModel", "number", "([I)I"⟩, 25), (⟨"HeapBenchModel", "become", "([I)V"⟩, 25), (⟨"HeapBenchModel", "useWays", "()V"⟩, 25), (⟨"HeapBenchModel", "costOf", "([II)J"⟩, 25), (⟨"HeapBenchModel", "middleOf", "([II)I"⟩, 25), (⟨"HeapBenchModel", "sumTo", "([III)I"⟩, 25), (⟨"HeapBenchModel", "search", "(III)J"⟩, 25), (⟨"HeapBenchModel", "next", "()Z"⟩, 25), (⟨"HeapBenchModel", "isAhead", "([I[I)Z"⟩, 25), (⟨"HeapBenchModel", "nearest", "(II)I"⟩, 25), (⟨"HeapBenchModel", "gather", "([I)J"⟩, 25), (⟨"HeapBenchModel", "like", "(II)Z"⟩, 25), (⟨"HeapBenchModel", "orders", "(I)J"⟩, 25)]
theorem lw_r3 : ∀ q ∈ lw_privs_3, lw_okq q := List.forall_mem_cons.mpr ⟨lw_p32, List.forall_mem_cons.mpr ⟨lw_p33, List.forall_mem_cons.mpr ⟨lw_p34, List.forall_mem_cons.mpr ⟨lw_p35, List.forall_mem_cons.mpr ⟨lw_p36, List.forall_mem_cons.mpr ⟨lw_p37, List.forall_mem_cons.mpr ⟨lw_p38, List.forall_mem_cons.mpr ⟨lw_p39, List.forall_mem_cons.mpr ⟨lw_p40, List.forall_mem_cons.mpr ⟨lw_p41, List.forall_mem_cons.mpr ⟨lw_p42, List.forall_mem_cons.mpr ⟨lw_p43, List.forall_mem_cons.mpr ⟨lw_p44, List.forall_mem_cons.mpr ⟨lw_p45, List.forall_mem_cons.mpr ⟨lw_p46, List.forall_mem_cons.mpr ⟨lw_p47, fun _ h => absurd h List.not_mem_nil⟩⟩⟩⟩⟩⟩⟩⟩⟩⟩⟩⟩⟩⟩⟩⟩
theorem lw_p48 : lw_okq (⟨"HeapBenchModel", "heightOf", "(III)I"⟩, 25) := ⟨⟨by decide +kernel, by decide +kernel⟩, List.mem_of_getElem? (i := 841) (by decide +kernel), List.mem_of_getElem? (i := 1115) (by decide +kernel), List.mem_of_getElem? (i := 1116) (by decide +kernel)⟩
theorem lw_p49 : lw_okq (⟨"HeapBenchModel", "join", "(I)V"⟩, 25) := ⟨⟨by decide +kernel, by decide +kernel⟩, List.mem_of_getElem? (i := 841) (by decide +kernel), List.mem_of_getElem? (i := 1128) (by decide +kernel), List.mem_of_getElem? (i := 1129) (by decide +kernel)⟩
theorem lw_p50 : lw_okq (⟨"HeapBenchModel", "keepWhy", "(I)I"⟩, 25) := ⟨⟨by decide +kernel, by decide +kernel⟩, List.mem_of_getElem? (i := 841) (by decide +kernel), List.mem_of_getElem? (i := 1162) (by decide +kernel), List.mem_of_getElem? (i := 1163) (by decide +kernel)⟩
theorem lw_p51 : lw_okq (⟨"HeapBenchModel", "takeList", "()Z"⟩, 25) := ⟨⟨by decide +kernel, by decide +kernel⟩, List.mem_of_getElem? (i := 841) (by decide +kernel), List.mem_of_getElem? (i := 1178) (by decide +kernel), List.mem_of_getElem? (i := 1179) (by decide +kernel)⟩
def lw_privs_4 : List (MethodName × Nat) := [(⟨"HeapBenchModel", "heightOf", "(III)I"⟩, 25), (⟨"HeapBenchModel", "join", "(I)V"⟩, 25), (⟨"HeapBenchModel", "keepWhy", "(I)I"⟩, 25), (⟨"HeapBenchModel", "takeList", "()Z"⟩, 25)]
theorem lw_r4 : ∀ q ∈ lw_privs_4, lw_okq q := List.forall_mem_cons.mpr ⟨lw_p48, List.forall_mem_cons.mpr ⟨lw_p49, List.forall_mem_cons.mpr ⟨lw_p50, List.forall_mem_cons.mpr ⟨lw_p51, fun _ h => absurd h List.not_mem_nil⟩⟩⟩⟩
def lw_privs : List (MethodName × Nat) := lw_privs_1 ++ (lw_privs_2 ++ (lw_privs_3 ++ (lw_privs_4)))
def lw_tbl : List Cond := k2_sels lw_privs ++ tables_1
theorem lw_privs_ok : ∀ q ∈ lw_privs, lw_okq q := by
  show ∀ q ∈ lw_privs_1 ++ (lw_privs_2 ++ (lw_privs_3 ++ (lw_privs_4))), lw_okq q
  exact List.forall_mem_append.mpr ⟨lw_r1, List.forall_mem_append.mpr ⟨lw_r2, List.forall_mem_append.mpr ⟨lw_r3, lw_r4⟩⟩⟩
end
section
def RX0 : String := "HeapBench$Costs"
def TX0 : u_T := fun k => match k with
  | _ => ("", "", "", false)
def tyX0 : Nat → FieldType := fun k => match k with
  | _ => .int
theorem nmX0 : ∀ a, a < 0 → ∀ b, b < 0 → a ≠ b → (TX0 a).2.1 ≠ (TX0 b).2.1 := by decide +kernel
theorem tyX0_ok : ∀ k, k < 0 → parseFieldDescriptor (TX0 k).2.2.1 = some (tyX0 k) := by decide +kernel
abbrev cX0_ofParting : ByteArray := prog_2_method_2_code
def yX0_ofParting : MethodName := ⟨RX0, "ofParting", "(LHeapBench$Scene;ILHeapBench$Parting;)J"⟩
abbrev cX0_ground : ByteArray := prog_2_method_3_code
def yX0_ground : MethodName := ⟨RX0, "ground", "(LHeapBench$Scene;I)J"⟩
abbrev cX0_with : ByteArray := prog_2_method_4_code
def yX0_with : MethodName := ⟨RX0, "with", "(IJJ)J"⟩
abbrev cX0_ofHeap : ByteArray := prog_2_method_5_code
def yX0_ofHeap : MethodName := ⟨RX0, "ofHeap", "(LHeapBench$Scene;II)J"⟩
abbrev cX0_has : ByteArray := prog_2_method_6_code
def yX0_has : MethodName := ⟨RX0, "has", "(II)Z"⟩
abbrev cX0_spread : ByteArray := prog_2_method_7_code
def yX0_spread : MethodName := ⟨RX0, "spread", "(LHeapBench$Scene;I)J"⟩
abbrev cX0_middleOf : ByteArray := prog_2_method_8_code
def yX0_middleOf : MethodName := ⟨RX0, "middleOf", "(LHeapBench$Scene;I)I"⟩
abbrev cX0_sumFrom : ByteArray := prog_2_method_9_code
def yX0_sumFrom : MethodName := ⟨RX0, "sumFrom", "(LHeapBench$Scene;II)J"⟩
abbrev cX0_width : ByteArray := prog_2_method_10_code
def yX0_width : MethodName := ⟨RX0, "width", "(LHeapBench$Scene;I)J"⟩
abbrev cX0_reach : ByteArray := prog_2_method_11_code
def yX0_reach : MethodName := ⟨RX0, "reach", "(LHeapBench$Scene;III)I"⟩
abbrev cX0_quarrels : ByteArray := prog_2_method_12_code
def yX0_quarrels : MethodName := ⟨RX0, "quarrels", "(LHeapBench$Scene;I)J"⟩
def RX1 : String := "HeapBench$History"
def TX1 : u_T := fun k => match k with
  | 0 => ("HeapBench$History", "length", "I", false)
  | 1 => ("HeapBench$History", "next", "I", false)
  | _ => ("HeapBench$History", "scenes", "[LHeapBench$Scene;", true)
def tyX1 : Nat → FieldType := fun k => match k with
  | 0 => .int
  | 1 => .int
  | _ => .array (.object "HeapBench$Scene")
theorem nmX1 : ∀ a, a < 3 → ∀ b, b < 3 → a ≠ b → (TX1 a).2.1 ≠ (TX1 b).2.1 := by decide +kernel
theorem tyX1_ok : ∀ k, k < 3 → parseFieldDescriptor (TX1 k).2.2.1 = some (tyX1 k) := by decide +kernel
abbrev cX1_init : ByteArray := prog_3_method_1_code
def yX1_init : MethodName := ⟨RX1, "<init>", "()V"⟩
abbrev cX1_remember : ByteArray := prog_3_method_2_code
def yX1_remember : MethodName := ⟨RX1, "remember", "(LHeapBench$Scene;)V"⟩
abbrev cX1_bringBack : ByteArray := prog_3_method_3_code
def yX1_bringBack : MethodName := ⟨RX1, "bringBack", "(LHeapBench$Scene;)V"⟩
def RX2 : String := "HeapBench$Likes"
def TX2 : u_T := fun k => match k with
  | 0 => ("HeapBench$Likes", "order", "[I", true)
  | _ => ("HeapBench$Likes", "sums", "[J", true)
def tyX2 : Nat → FieldType := fun k => match k with
  | 0 => .array .int
  | _ => .array .long
theorem nmX2 : ∀ a, a < 2 → ∀ b, b < 2 → a ≠ b → (TX2 a).2.1 ≠ (TX2 b).2.1 := by decide +kernel
theorem tyX2_ok : ∀ k, k < 2 → parseFieldDescriptor (TX2 k).2.2.1 = some (tyX2 k) := by decide +kernel
abbrev cX2_init : ByteArray := prog_4_method_1_code
def yX2_init : MethodName := ⟨RX2, "<init>", "()V"⟩
abbrev cX2_shuffle : ByteArray := prog_4_method_2_code
def yX2_shuffle : MethodName := ⟨RX2, "shuffle", "(II)V"⟩
abbrev cX2_gather : ByteArray := prog_4_method_3_code
def yX2_gather : MethodName := ⟨RX2, "gather", "(LHeapBench$Scene;)V"⟩
abbrev cX2_likedBy : ByteArray := prog_4_method_4_code
def yX2_likedBy : MethodName := ⟨RX2, "likedBy", "(LHeapBench$Scene;II)I"⟩
abbrev cX2_sumOverOrders : ByteArray := prog_4_method_5_code
def yX2_sumOverOrders : MethodName := ⟨RX2, "sumOverOrders", "(LHeapBench$Scene;)J"⟩
abbrev cX2_sumOver : ByteArray := prog_4_method_6_code
def yX2_sumOver : MethodName := ⟨RX2, "sumOver", "(LHeapBench$Scene;I)J"⟩
abbrev cX2_costOfTaking : ByteArray := prog_4_method_7_code
def yX2_costOfTaking : MethodName := ⟨RX2, "costOfTaking", "(LHeapBench$Scene;II)J"⟩
abbrev cX2_brokenRounds : ByteArray := prog_4_method_8_code
def yX2_brokenRounds : MethodName := ⟨RX2, "brokenRounds", "(LHeapBench$Scene;)I"⟩
abbrev cX2_isBroken : ByteArray := prog_4_method_9_code
def yX2_isBroken : MethodName := ⟨RX2, "isBroken", "(LHeapBench$Scene;III)Z"⟩
def RX3 : String := "HeapBench$Line"
def TX3 : u_T := fun k => match k with
  | 0 => ("HeapBench$Line", "order", "[I", true)
  | 1 => ("HeapBench$Line", "spanCosts", "[J", true)
  | 2 => ("HeapBench$Line", "trial", "LHeapBench$Parting;", true)
  | _ => ("HeapBench$Line", "flat", "LHeapBench$Scene;", true)
def tyX3 : Nat → FieldType := fun k => match k with
  | 0 => .array .int
  | 1 => .array .long
  | 2 => .object "HeapBench$Parting"
  | _ => .object "HeapBench$Scene"
theorem nmX3 : ∀ a, a < 4 → ∀ b, b < 4 → a ≠ b → (TX3 a).2.1 ≠ (TX3 b).2.1 := by decide +kernel
theorem tyX3_ok : ∀ k, k < 4 → parseFieldDescriptor (TX3 k).2.2.1 = some (tyX3 k) := by decide +kernel
abbrev cX3_init : ByteArray := prog_5_method_1_code
def yX3_init : MethodName := ⟨RX3, "<init>", "()V"⟩
abbrev cX3_run : ByteArray := prog_5_method_2_code
def yX3_run : MethodName := ⟨RX3, "run", "(LHeapBench$Scene;II)J"⟩
abbrev cX3_flatten : ByteArray := prog_5_method_3_code
def yX3_flatten : MethodName := ⟨RX3, "flatten", "(LHeapBench$Scene;)V"⟩
abbrev cX3_sortThings : ByteArray := prog_5_method_4_code
def yX3_sortThings : MethodName := ⟨RX3, "sortThings", "(LHeapBench$Scene;)V"⟩
abbrev cX3_costAllSpans : ByteArray := prog_5_method_5_code
def yX3_costAllSpans : MethodName := ⟨RX3, "costAllSpans", "(I)V"⟩
abbrev cX3_endsAt : ByteArray := prog_5_method_6_code
def yX3_endsAt : MethodName := ⟨RX3, "endsAt", "(II)Z"⟩
abbrev cX3_costOf : ByteArray := prog_5_method_7_code
def yX3_costOf : MethodName := ⟨RX3, "costOf", "(II)J"⟩
abbrev cX3_partBy : ByteArray := prog_5_method_8_code
def yX3_partBy : MethodName := ⟨RX3, "partBy", "(I)V"⟩
def RX4 : String := "HeapBench$Moves"
def TX4 : u_T := fun k => match k with
  | 0 => ("HeapBench$Moves", "members", "[I", true)
  | 1 => ("HeapBench$Moves", "parts", "[J", true)
  | _ => ("HeapBench$Moves", "ground", "J", false)
def tyX4 : Nat → FieldType := fun k => match k with
  | 0 => .array .int
  | 1 => .array .long
  | _ => .long
theorem nmX4 : ∀ a, a < 3 → ∀ b, b < 3 → a ≠ b → (TX4 a).2.1 ≠ (TX4 b).2.1 := by decide +kernel
theorem tyX4_ok : ∀ k, k < 3 → parseFieldDescriptor (TX4 k).2.2.1 = some (tyX4 k) := by decide +kernel
abbrev cX4_init : ByteArray := prog_6_method_1_code
def yX4_init : MethodName := ⟨RX4, "<init>", "()V"⟩
abbrev cX4_run : ByteArray := prog_6_method_2_code
def yX4_run : MethodName := ⟨RX4, "run", "(LHeapBench$Scene;I)I"⟩
abbrev cX4_weighHeaps : ByteArray := prog_6_method_3_code
def yX4_weighHeaps : MethodName := ⟨RX4, "weighHeaps", "(LHeapBench$Scene;I)V"⟩
abbrev cX4_makeBestMove : ByteArray := prog_6_method_4_code
def yX4_makeBestMove : MethodName := ⟨RX4, "makeBestMove", "(LHeapBench$Scene;I)Z"⟩
abbrev cX4_costAfter : ByteArray := prog_6_method_5_code
def yX4_costAfter : MethodName := ⟨RX4, "costAfter", "(LHeapBench$Scene;III)J"⟩
def RX5 : String := "HeapBench$Names"
def TX5 : u_T := fun k => match k with
  | 0 => ("HeapBench$Names", "endings", "[J", true)
  | _ => ("HeapBench$Names", "byHeaps", "[J", true)
def tyX5 : Nat → FieldType := fun k => match k with
  | 0 => .array .long
  | _ => .array .long
theorem nmX5 : ∀ a, a < 2 → ∀ b, b < 2 → a ≠ b → (TX5 a).2.1 ≠ (TX5 b).2.1 := by decide +kernel
theorem tyX5_ok : ∀ k, k < 2 → parseFieldDescriptor (TX5 k).2.2.1 = some (tyX5 k) := by decide +kernel
abbrev cX5_init : ByteArray := prog_7_method_1_code
def yX5_init : MethodName := ⟨RX5, "<init>", "()V"⟩
abbrev cX5_allOf : ByteArray := prog_7_method_2_code
def yX5_allOf : MethodName := ⟨RX5, "allOf", "(I)J"⟩
abbrev cX5_withHeaps : ByteArray := prog_7_method_3_code
def yX5_withHeaps : MethodName := ⟨RX5, "withHeaps", "(II)J"⟩
abbrev cX5_rankOf : ByteArray := prog_7_method_4_code
def yX5_rankOf : MethodName := ⟨RX5, "rankOf", "(LHeapBench$Parting;)J"⟩
abbrev cX5_unrank : ByteArray := prog_7_method_5_code
def yX5_unrank : MethodName := ⟨RX5, "unrank", "(JLHeapBench$Parting;)V"⟩
def RX6 : String := "HeapBench$Parting"
def TX6 : u_T := fun k => match k with
  | 0 => ("HeapBench$Parting", "size", "I", false)
  | 1 => ("HeapBench$Parting", "heaps", "I", false)
  | 2 => ("HeapBench$Parting", "heapOf", "[I", true)
  | _ => ("HeapBench$Parting", "fresh", "[I", true)
def tyX6 : Nat → FieldType := fun k => match k with
  | 0 => .int
  | 1 => .int
  | 2 => .array .int
  | _ => .array .int
theorem nmX6 : ∀ a, a < 4 → ∀ b, b < 4 → a ≠ b → (TX6 a).2.1 ≠ (TX6 b).2.1 := by decide +kernel
theorem tyX6_ok : ∀ k, k < 4 → parseFieldDescriptor (TX6 k).2.2.1 = some (tyX6 k) := by decide +kernel
abbrev cX6_init : ByteArray := prog_8_method_1_code
def yX6_init : MethodName := ⟨RX6, "<init>", "()V"⟩
abbrev cX6_copyFrom : ByteArray := prog_8_method_2_code
def yX6_copyFrom : MethodName := ⟨RX6, "copyFrom", "(LHeapBench$Parting;)V"⟩
abbrev cX6_allInOne : ByteArray := prog_8_method_3_code
def yX6_allInOne : MethodName := ⟨RX6, "allInOne", "(I)V"⟩
abbrev cX6_renumber : ByteArray := prog_8_method_4_code
def yX6_renumber : MethodName := ⟨RX6, "renumber", "()V"⟩
abbrev cX6_membersOf : ByteArray := prog_8_method_5_code
def yX6_membersOf : MethodName := ⟨RX6, "membersOf", "(I)I"⟩
abbrev cX6_pairsApart : ByteArray := prog_8_method_6_code
def yX6_pairsApart : MethodName := ⟨RX6, "pairsApart", "(LHeapBench$Parting;)I"⟩
abbrev cX6_meet : ByteArray := prog_8_method_7_code
def yX6_meet : MethodName := ⟨RX6, "meet", "(LHeapBench$Parting;)V"⟩
abbrev cX6_standsAhead : ByteArray := prog_8_method_8_code
def yX6_standsAhead : MethodName := ⟨RX6, "standsAhead", "(LHeapBench$Parting;)Z"⟩
def RX7 : String := "HeapBench$Scene"
def TX7 : u_T := fun k => match k with
  | 0 => ("HeapBench$Scene", "size", "I", false)
  | 1 => ("HeapBench$Scene", "places", "[I", true)
  | 2 => ("HeapBench$Scene", "ways", "[I", true)
  | 3 => ("HeapBench$Scene", "weights", "[I", true)
  | 4 => ("HeapBench$Scene", "likes", "[I", true)
  | _ => ("HeapBench$Scene", "parting", "LHeapBench$Parting;", true)
def tyX7 : Nat → FieldType := fun k => match k with
  | 0 => .int
  | 1 => .array .int
  | 2 => .array .int
  | 3 => .array .int
  | 4 => .array .int
  | _ => .object "HeapBench$Parting"
theorem nmX7 : ∀ a, a < 6 → ∀ b, b < 6 → a ≠ b → (TX7 a).2.1 ≠ (TX7 b).2.1 := by decide +kernel
theorem tyX7_ok : ∀ k, k < 6 → parseFieldDescriptor (TX7 k).2.2.1 = some (tyX7 k) := by decide +kernel
abbrev cX7_init : ByteArray := prog_9_method_1_code
def yX7_init : MethodName := ⟨RX7, "<init>", "()V"⟩
abbrev cX7_restart : ByteArray := prog_9_method_2_code
def yX7_restart : MethodName := ⟨RX7, "restart", "(I)V"⟩
abbrev cX7_copyFrom : ByteArray := prog_9_method_3_code
def yX7_copyFrom : MethodName := ⟨RX7, "copyFrom", "(LHeapBench$Scene;)V"⟩
abbrev cX7_wayOf : ByteArray := prog_9_method_4_code
def yX7_wayOf : MethodName := ⟨RX7, "wayOf", "(II)I"⟩
abbrev cX7_weightOf : ByteArray := prog_9_method_5_code
def yX7_weightOf : MethodName := ⟨RX7, "weightOf", "(II)I"⟩
abbrev cX7_likeOf : ByteArray := prog_9_method_6_code
def yX7_likeOf : MethodName := ⟨RX7, "likeOf", "(II)I"⟩
abbrev cX7_setWay : ByteArray := prog_9_method_7_code
def yX7_setWay : MethodName := ⟨RX7, "setWay", "(III)V"⟩
abbrev cX7_setQuarrel : ByteArray := prog_9_method_8_code
def yX7_setQuarrel : MethodName := ⟨RX7, "setQuarrel", "(IIII)V"⟩
abbrev cX7_pulls : ByteArray := prog_9_method_9_code
def yX7_pulls : MethodName := ⟨RX7, "pulls", "(II)Z"⟩
abbrev cX7_firstNumber : ByteArray := prog_9_method_10_code
def yX7_firstNumber : MethodName := ⟨RX7, "firstNumber", "(I)I"⟩
abbrev cX7_gapOf : ByteArray := prog_9_method_11_code
def yX7_gapOf : MethodName := ⟨RX7, "gapOf", "(III)I"⟩
abbrev cX7_partByCentres : ByteArray := prog_9_method_12_code
def yX7_partByCentres : MethodName := ⟨RX7, "partByCentres", "(I)I"⟩
abbrev cX7_wayToCentre : ByteArray := prog_9_method_13_code
def yX7_wayToCentre : MethodName := ⟨RX7, "wayToCentre", "(I)I"⟩
abbrev cX7_farthestFromCentre : ByteArray := prog_9_method_14_code
def yX7_farthestFromCentre : MethodName := ⟨RX7, "farthestFromCentre", "()I"⟩
abbrev cX7_gatherNearer : ByteArray := prog_9_method_15_code
def yX7_gatherNearer : MethodName := ⟨RX7, "gatherNearer", "(I)V"⟩
def RX8 : String := "HeapBench$Search"
def TX8 : u_T := fun k => match k with
  | 0 => ("HeapBench$Search", "heapCosts", "[J", true)
  | 1 => ("HeapBench$Search", "members", "[I", true)
  | 2 => ("HeapBench$Search", "heapOf", "[I", true)
  | 3 => ("HeapBench$Search", "scene", "LHeapBench$Scene;", true)
  | 4 => ("HeapBench$Search", "leastCost", "J", false)
  | 5 => ("HeapBench$Search", "goal", "I", false)
  | 6 => ("HeapBench$Search", "fewest", "I", false)
  | _ => ("HeapBench$Search", "most", "I", false)
def tyX8 : Nat → FieldType := fun k => match k with
  | 0 => .array .long
  | 1 => .array .int
  | 2 => .array .int
  | 3 => .object "HeapBench$Scene"
  | 4 => .long
  | 5 => .int
  | 6 => .int
  | _ => .int
theorem nmX8 : ∀ a, a < 8 → ∀ b, b < 8 → a ≠ b → (TX8 a).2.1 ≠ (TX8 b).2.1 := by decide +kernel
theorem tyX8_ok : ∀ k, k < 8 → parseFieldDescriptor (TX8 k).2.2.1 = some (tyX8 k) := by decide +kernel
abbrev cX8_init : ByteArray := prog_10_method_1_code
def yX8_init : MethodName := ⟨RX8, "<init>", "(LHeapBench$Scene;)V"⟩
abbrev cX8_run : ByteArray := prog_10_method_2_code
def yX8_run : MethodName := ⟨RX8, "run", "(III)J"⟩
abbrev cX8_costAllHeaps : ByteArray := prog_10_method_3_code
def yX8_costAllHeaps : MethodName := ⟨RX8, "costAllHeaps", "()V"⟩
abbrev cX8_descend : ByteArray := prog_10_method_4_code
def yX8_descend : MethodName := ⟨RX8, "descend", "(IIJ)V"⟩
abbrev cX8_grown : ByteArray := prog_10_method_5_code
def yX8_grown : MethodName := ⟨RX8, "grown", "(JII)J"⟩
abbrev cX8_take : ByteArray := prog_10_method_6_code
def yX8_take : MethodName := ⟨RX8, "take", "(IJ)V"⟩
def RX9 : String := "HeapBench$Sheet"
def TX9 : u_T := fun k => match k with
  | 0 => ("HeapBench$Sheet", "kind", "I", false)
  | 1 => ("HeapBench$Sheet", "length", "I", false)
  | _ => ("HeapBench$Sheet", "entries", "[J", true)
def tyX9 : Nat → FieldType := fun k => match k with
  | 0 => .int
  | 1 => .int
  | _ => .array .long
theorem nmX9 : ∀ a, a < 3 → ∀ b, b < 3 → a ≠ b → (TX9 a).2.1 ≠ (TX9 b).2.1 := by decide +kernel
theorem tyX9_ok : ∀ k, k < 3 → parseFieldDescriptor (TX9 k).2.2.1 = some (tyX9 k) := by decide +kernel
abbrev cX9_init : ByteArray := prog_11_method_1_code
def yX9_init : MethodName := ⟨RX9, "<init>", "()V"⟩
abbrev cX9_renew : ByteArray := prog_11_method_2_code
def yX9_renew : MethodName := ⟨RX9, "renew", "(II)V"⟩
abbrev cX9_drop : ByteArray := prog_11_method_3_code
def yX9_drop : MethodName := ⟨RX9, "drop", "()V"⟩
abbrev cX9_write : ByteArray := prog_11_method_4_code
def yX9_write : MethodName := ⟨RX9, "write", "(IJ)V"⟩
abbrev cX9_isPlace : ByteArray := prog_11_method_5_code
def yX9_isPlace : MethodName := ⟨RX9, "isPlace", "()Z"⟩
def RX10 : String := "HeapBench$Tree"
def TX10 : u_T := fun k => match k with
  | 0 => ("HeapBench$Tree", "length", "I", false)
  | 1 => ("HeapBench$Tree", "size", "I", false)
  | 2 => ("HeapBench$Tree", "one", "[I", true)
  | 3 => ("HeapBench$Tree", "other", "[I", true)
  | 4 => ("HeapBench$Tree", "heights", "[I", true)
  | 5 => ("HeapBench$Tree", "between", "[I", true)
  | _ => ("HeapBench$Tree", "heapsLeft", "I", false)
def tyX10 : Nat → FieldType := fun k => match k with
  | 0 => .int
  | 1 => .int
  | 2 => .array .int
  | 3 => .array .int
  | 4 => .array .int
  | 5 => .array .int
  | _ => .int
theorem nmX10 : ∀ a, a < 7 → ∀ b, b < 7 → a ≠ b → (TX10 a).2.1 ≠ (TX10 b).2.1 := by decide +kernel
theorem tyX10_ok : ∀ k, k < 7 → parseFieldDescriptor (TX10 k).2.2.1 = some (tyX10 k) := by decide +kernel
abbrev cX10_init : ByteArray := prog_12_method_1_code
def yX10_init : MethodName := ⟨RX10, "<init>", "()V"⟩
abbrev cX10_drop : ByteArray := prog_12_method_2_code
def yX10_drop : MethodName := ⟨RX10, "drop", "()V"⟩
abbrev cX10_grow : ByteArray := prog_12_method_3_code
def yX10_grow : MethodName := ⟨RX10, "grow", "(LHeapBench$Scene;I)V"⟩
abbrev cX10_findLowest : ByteArray := prog_12_method_4_code
def yX10_findLowest : MethodName := ⟨RX10, "findLowest", "()V"⟩
abbrev cX10_joinLowest : ByteArray := prog_12_method_5_code
def yX10_joinLowest : MethodName := ⟨RX10, "joinLowest", "(I)V"⟩
abbrev cX10_heightOf : ByteArray := prog_12_method_6_code
def yX10_heightOf : MethodName := ⟨RX10, "heightOf", "(II)I"⟩
abbrev cX10_partBelow : ByteArray := prog_12_method_7_code
def yX10_partBelow : MethodName := ⟨RX10, "partBelow", "(ILHeapBench$Parting;)V"⟩
def RX11 : String := "HeapBench"
def TX11 : u_T := fun k => match k with
  | 0 => ("HeapBench", "now", "LHeapBench$Scene;", true)
  | 1 => ("HeapBench", "past", "LHeapBench$History;", true)
  | 2 => ("HeapBench", "page", "LHeapBench$Sheet;", true)
  | 3 => ("HeapBench", "joins", "LHeapBench$Tree;", true)
  | 4 => ("HeapBench", "kept", "[LHeapBench$Parting;", true)
  | 5 => ("HeapBench", "told", "LHeapBench$Parting;", true)
  | 6 => ("HeapBench", "search", "LHeapBench$Search;", true)
  | 7 => ("HeapBench", "spans", "LHeapBench$Line;", true)
  | 8 => ("HeapBench", "moves", "LHeapBench$Moves;", true)
  | 9 => ("HeapBench", "likings", "LHeapBench$Likes;", true)
  | 10 => ("HeapBench", "names", "LHeapBench$Names;", true)
  | _ => ("HeapBench", "latestFault", "I", false)
def tyX11 : Nat → FieldType := fun k => match k with
  | 0 => .object "HeapBench$Scene"
  | 1 => .object "HeapBench$History"
  | 2 => .object "HeapBench$Sheet"
  | 3 => .object "HeapBench$Tree"
  | 4 => .array (.object "HeapBench$Parting")
  | 5 => .object "HeapBench$Parting"
  | 6 => .object "HeapBench$Search"
  | 7 => .object "HeapBench$Line"
  | 8 => .object "HeapBench$Moves"
  | 9 => .object "HeapBench$Likes"
  | 10 => .object "HeapBench$Names"
  | _ => .int
theorem nmX11 : ∀ a, a < 12 → ∀ b, b < 12 → a ≠ b → (TX11 a).2.1 ≠ (TX11 b).2.1 := by decide +kernel
theorem tyX11_ok : ∀ k, k < 12 → parseFieldDescriptor (TX11 k).2.2.1 = some (tyX11 k) := by decide +kernel
abbrev cX11_init : ByteArray := prog_1_method_1_code
def yX11_init : MethodName := ⟨RX11, "<init>", "()V"⟩
abbrev cX11_things : ByteArray := prog_1_method_2_code
def yX11_things : MethodName := ⟨RX11, "things", "(I)Z"⟩
abbrev cX11_way : ByteArray := prog_1_method_3_code
def yX11_way : MethodName := ⟨RX11, "way", "(III)I"⟩
abbrev cX11_sheet : ByteArray := prog_1_method_4_code
def yX11_sheet : MethodName := ⟨RX11, "sheet", "(II)I"⟩
abbrev cX11_entry : ByteArray := prog_1_method_5_code
def yX11_entry : MethodName := ⟨RX11, "entry", "(IJ)Z"⟩
abbrev cX11_lay : ByteArray := prog_1_method_6_code
def yX11_lay : MethodName := ⟨RX11, "lay", "(I)Z"⟩
abbrev cX11_measure : ByteArray := prog_1_method_7_code
def yX11_measure : MethodName := ⟨RX11, "measure", "(I)I"⟩
abbrev cX11_quarrel : ByteArray := prog_1_method_8_code
def yX11_quarrel : MethodName := ⟨RX11, "quarrel", "(IIIZ)Z"⟩
abbrev cX11_put : ByteArray := prog_1_method_9_code
def yX11_put : MethodName := ⟨RX11, "put", "(II)I"⟩
abbrev cX11_count : ByteArray := prog_1_method_10_code
def yX11_count : MethodName := ⟨RX11, "count", "(I)I"⟩
abbrev cX11_heap : ByteArray := prog_1_method_11_code
def yX11_heap : MethodName := ⟨RX11, "heap", "(I)I"⟩
abbrev cX11_pair : ByteArray := prog_1_method_12_code
def yX11_pair : MethodName := ⟨RX11, "pair", "(III)I"⟩
abbrev cX11_cost : ByteArray := prog_1_method_13_code
def yX11_cost : MethodName := ⟨RX11, "cost", "(I)J"⟩
abbrev cX11_middle : ByteArray := prog_1_method_14_code
def yX11_middle : MethodName := ⟨RX11, "middle", "(I)I"⟩
abbrev cX11_best : ByteArray := prog_1_method_15_code
def yX11_best : MethodName := ⟨RX11, "best", "(II)J"⟩
abbrev cX11_line : ByteArray := prog_1_method_16_code
def yX11_line : MethodName := ⟨RX11, "line", "(II)J"⟩
abbrev cX11_better : ByteArray := prog_1_method_17_code
def yX11_better : MethodName := ⟨RX11, "better", "(I)I"⟩
abbrev cX11_two : ByteArray := prog_1_method_18_code
def yX11_two : MethodName := ⟨RX11, "two", "()I"⟩
abbrev cX11_centres : ByteArray := prog_1_method_19_code
def yX11_centres : MethodName := ⟨RX11, "centres", "(I)I"⟩
abbrev cX11_third : ByteArray := prog_1_method_20_code
def yX11_third : MethodName := ⟨RX11, "third", "(I)J"⟩
abbrev cX11_thirds : ByteArray := prog_1_method_21_code
def yX11_thirds : MethodName := ⟨RX11, "thirds", "()J"⟩
abbrev cX11_rounds : ByteArray := prog_1_method_22_code
def yX11_rounds : MethodName := ⟨RX11, "rounds", "()I"⟩
abbrev cX11_tree : ByteArray := prog_1_method_23_code
def yX11_tree : MethodName := ⟨RX11, "tree", "(I)I"⟩
abbrev cX11_joined : ByteArray := prog_1_method_24_code
def yX11_joined : MethodName := ⟨RX11, "joined", "(II)I"⟩
abbrev cX11_height : ByteArray := prog_1_method_25_code
def yX11_height : MethodName := ⟨RX11, "height", "(II)I"⟩
abbrev cX11_cut : ByteArray := prog_1_method_26_code
def yX11_cut : MethodName := ⟨RX11, "cut", "(I)I"⟩
abbrev cX11_many : ByteArray := prog_1_method_27_code
def yX11_many : MethodName := ⟨RX11, "many", "(II)J"⟩
abbrev cX11_rank : ByteArray := prog_1_method_28_code
def yX11_rank : MethodName := ⟨RX11, "rank", "()J"⟩
abbrev cX11_of : ByteArray := prog_1_method_29_code
def yX11_of : MethodName := ⟨RX11, "of", "(J)Z"⟩
abbrev cX11_keep : ByteArray := prog_1_method_30_code
def yX11_keep : MethodName := ⟨RX11, "keep", "(I)Z"⟩
abbrev cX11_differ : ByteArray := prog_1_method_31_code
def yX11_differ : MethodName := ⟨RX11, "differ", "(I)I"⟩
abbrev cX11_both : ByteArray := prog_1_method_32_code
def yX11_both : MethodName := ⟨RX11, "both", "(I)I"⟩
abbrev cX11_tell : ByteArray := prog_1_method_33_code
def yX11_tell : MethodName := ⟨RX11, "tell", "(I)I"⟩
abbrev cX11_check : ByteArray := prog_1_method_34_code
def yX11_check : MethodName := ⟨RX11, "check", "(IJ)I"⟩
abbrev cX11_load : ByteArray := prog_1_method_35_code
def yX11_load : MethodName := ⟨RX11, "load", "()I"⟩
abbrev cX11_undo : ByteArray := prog_1_method_36_code
def yX11_undo : MethodName := ⟨RX11, "undo", "()I"⟩
abbrev cX11_fault : ByteArray := prog_1_method_37_code
def yX11_fault : MethodName := ⟨RX11, "fault", "()I"⟩
abbrev cX11_refuse : ByteArray := prog_1_method_38_code
def yX11_refuse : MethodName := ⟨RX11, "refuse", "(I)I"⟩
abbrev cX11_deny : ByteArray := prog_1_method_39_code
def yX11_deny : MethodName := ⟨RX11, "deny", "(I)Z"⟩
abbrev cX11_change : ByteArray := prog_1_method_40_code
def yX11_change : MethodName := ⟨RX11, "change", "()V"⟩
abbrev cX11_isThing : ByteArray := prog_1_method_41_code
def yX11_isThing : MethodName := ⟨RX11, "isThing", "(I)Z"⟩
abbrev cX11_isCouple : ByteArray := prog_1_method_42_code
def yX11_isCouple : MethodName := ⟨RX11, "isCouple", "(II)Z"⟩
abbrev cX11_isGoal : ByteArray := prog_1_method_43_code
def yX11_isGoal : MethodName := ⟨RX11, "isGoal", "(I)Z"⟩
abbrev cX11_keepFault : ByteArray := prog_1_method_44_code
def yX11_keepFault : MethodName := ⟨RX11, "keepFault", "(I)I"⟩
def RX12 : String := "HeapBenchModel"
def TX12 : u_T := fun k => match k with
  | 0 => ("HeapBenchModel", "sizes", "[I", true)
  | 1 => ("HeapBenchModel", "places", "[I", true)
  | 2 => ("HeapBenchModel", "ways", "[I", true)
  | 3 => ("HeapBenchModel", "weights", "[I", true)
  | 4 => ("HeapBenchModel", "likes", "[Z", true)
  | 5 => ("HeapBenchModel", "names", "[I", true)
  | 6 => ("HeapBenchModel", "past", "I", false)
  | 7 => ("HeapBenchModel", "firstPast", "I", false)
  | 8 => ("HeapBenchModel", "sheetKind", "I", false)
  | 9 => ("HeapBenchModel", "sheetMany", "I", false)
  | 10 => ("HeapBenchModel", "sheet", "[J", true)
  | 11 => ("HeapBenchModel", "joins", "I", false)
  | 12 => ("HeapBenchModel", "joinOne", "[I", true)
  | 13 => ("HeapBenchModel", "joinOther", "[I", true)
  | 14 => ("HeapBenchModel", "joinHeight", "[I", true)
  | 15 => ("HeapBenchModel", "keptSize", "[I", true)
  | 16 => ("HeapBenchModel", "kept", "[I", true)
  | 17 => ("HeapBenchModel", "list", "[I", true)
  | 18 => ("HeapBenchModel", "listed", "I", false)
  | 19 => ("HeapBenchModel", "fault", "I", false)
  | 20 => ("HeapBenchModel", "name", "[I", true)
  | 21 => ("HeapBenchModel", "best", "[I", true)
  | 22 => ("HeapBenchModel", "order", "[I", true)
  | 23 => ("HeapBenchModel", "use", "[I", true)
  | _ => ("HeapBenchModel", "row", "[I", true)
def tyX12 : Nat → FieldType := fun k => match k with
  | 0 => .array .int
  | 1 => .array .int
  | 2 => .array .int
  | 3 => .array .int
  | 4 => .array .boolean
  | 5 => .array .int
  | 6 => .int
  | 7 => .int
  | 8 => .int
  | 9 => .int
  | 10 => .array .long
  | 11 => .int
  | 12 => .array .int
  | 13 => .array .int
  | 14 => .array .int
  | 15 => .array .int
  | 16 => .array .int
  | 17 => .array .int
  | 18 => .int
  | 19 => .int
  | 20 => .array .int
  | 21 => .array .int
  | 22 => .array .int
  | 23 => .array .int
  | _ => .array .int
theorem nmX12 : ∀ a, a < 25 → ∀ b, b < 25 → a ≠ b → (TX12 a).2.1 ≠ (TX12 b).2.1 := by decide +kernel
theorem tyX12_ok : ∀ k, k < 25 → parseFieldDescriptor (TX12 k).2.2.1 = some (tyX12 k) := by decide +kernel
abbrev cX12_init : ByteArray := prog_14_method_1_code
def yX12_init : MethodName := ⟨RX12, "<init>", "()V"⟩
abbrev cX12_no : ByteArray := prog_14_method_2_code
def yX12_no : MethodName := ⟨RX12, "no", "(I)I"⟩
abbrev cX12_n : ByteArray := prog_14_method_3_code
def yX12_n : MethodName := ⟨RX12, "n", "()I"⟩
abbrev cX12_begin : ByteArray := prog_14_method_4_code
def yX12_begin : MethodName := ⟨RX12, "begin", "(I)V"⟩
abbrev cX12_copy : ByteArray := prog_14_method_5_code
def yX12_copy : MethodName := ⟨RX12, "copy", "(II)V"⟩
abbrev cX12_change : ByteArray := prog_14_method_6_code
def yX12_change : MethodName := ⟨RX12, "change", "()V"⟩
abbrev cX12_isThing : ByteArray := prog_14_method_7_code
def yX12_isThing : MethodName := ⟨RX12, "isThing", "(I)Z"⟩
abbrev cX12_arePair : ByteArray := prog_14_method_8_code
def yX12_arePair : MethodName := ⟨RX12, "arePair", "(II)Z"⟩
abbrev cX12_things : ByteArray := prog_14_method_9_code
def yX12_things : MethodName := ⟨RX12, "things", "(I)Z"⟩
abbrev cX12_setWay : ByteArray := prog_14_method_10_code
def yX12_setWay : MethodName := ⟨RX12, "setWay", "(III)V"⟩
abbrev cX12_way : ByteArray := prog_14_method_11_code
def yX12_way : MethodName := ⟨RX12, "way", "(III)I"⟩
abbrev cX12_sheet : ByteArray := prog_14_method_12_code
def yX12_sheet : MethodName := ⟨RX12, "sheet", "(II)I"⟩
abbrev cX12_entry : ByteArray := prog_14_method_13_code
def yX12_entry : MethodName := ⟨RX12, "entry", "(IJ)Z"⟩
abbrev cX12_lay : ByteArray := prog_14_method_14_code
def yX12_lay : MethodName := ⟨RX12, "lay", "(I)Z"⟩
abbrev cX12_measure : ByteArray := prog_14_method_15_code
def yX12_measure : MethodName := ⟨RX12, "measure", "(I)I"⟩
abbrev cX12_quarrel : ByteArray := prog_14_method_16_code
def yX12_quarrel : MethodName := ⟨RX12, "quarrel", "(IIIZ)Z"⟩
abbrev cX12_number : ByteArray := prog_14_method_17_code
def yX12_number : MethodName := ⟨RX12, "number", "([I)I"⟩
abbrev cX12_heaps : ByteArray := prog_14_method_18_code
def yX12_heaps : MethodName := ⟨RX12, "heaps", "([I)I"⟩
abbrev cX12_next : ByteArray := prog_14_method_19_code
def yX12_next : MethodName := ⟨RX12, "next", "()Z"⟩
abbrev cX12_isAhead : ByteArray := prog_14_method_20_code
def yX12_isAhead : MethodName := ⟨RX12, "isAhead", "([I[I)Z"⟩
abbrev cX12_useWays : ByteArray := prog_14_method_21_code
def yX12_useWays : MethodName := ⟨RX12, "useWays", "()V"⟩
abbrev cX12_sumTo : ByteArray := prog_14_method_22_code
def yX12_sumTo : MethodName := ⟨RX12, "sumTo", "([III)I"⟩
abbrev cX12_middleOf : ByteArray := prog_14_method_23_code
def yX12_middleOf : MethodName := ⟨RX12, "middleOf", "([II)I"⟩
abbrev cX12_costOf : ByteArray := prog_14_method_24_code
def yX12_costOf : MethodName := ⟨RX12, "costOf", "([II)J"⟩
abbrev cX12_become : ByteArray := prog_14_method_25_code
def yX12_become : MethodName := ⟨RX12, "become", "([I)V"⟩
abbrev cX12_takeNow : ByteArray := prog_14_method_26_code
def yX12_takeNow : MethodName := ⟨RX12, "takeNow", "()V"⟩
abbrev cX12_put : ByteArray := prog_14_method_27_code
def yX12_put : MethodName := ⟨RX12, "put", "(II)I"⟩
abbrev cX12_count : ByteArray := prog_14_method_28_code
def yX12_count : MethodName := ⟨RX12, "count", "(I)I"⟩
abbrev cX12_heap : ByteArray := prog_14_method_29_code
def yX12_heap : MethodName := ⟨RX12, "heap", "(I)I"⟩
abbrev cX12_pair : ByteArray := prog_14_method_30_code
def yX12_pair : MethodName := ⟨RX12, "pair", "(III)I"⟩
abbrev cX12_isGoal : ByteArray := prog_14_method_31_code
def yX12_isGoal : MethodName := ⟨RX12, "isGoal", "(I)Z"⟩
abbrev cX12_cost : ByteArray := prog_14_method_32_code
def yX12_cost : MethodName := ⟨RX12, "cost", "(I)J"⟩
abbrev cX12_middle : ByteArray := prog_14_method_33_code
def yX12_middle : MethodName := ⟨RX12, "middle", "(I)I"⟩
abbrev cX12_search : ByteArray := prog_14_method_34_code
def yX12_search : MethodName := ⟨RX12, "search", "(III)J"⟩
abbrev cX12_best : ByteArray := prog_14_method_35_code
def yX12_best : MethodName := ⟨RX12, "best", "(II)J"⟩
abbrev cX12_line : ByteArray := prog_14_method_36_code
def yX12_line : MethodName := ⟨RX12, "line", "(II)J"⟩
abbrev cX12_better : ByteArray := prog_14_method_37_code
def yX12_better : MethodName := ⟨RX12, "better", "(I)I"⟩
abbrev cX12_two : ByteArray := prog_14_method_38_code
def yX12_two : MethodName := ⟨RX12, "two", "()I"⟩
abbrev cX12_nearest : ByteArray := prog_14_method_39_code
def yX12_nearest : MethodName := ⟨RX12, "nearest", "(II)I"⟩
abbrev cX12_centres : ByteArray := prog_14_method_40_code
def yX12_centres : MethodName := ⟨RX12, "centres", "(I)I"⟩
abbrev cX12_like : ByteArray := prog_14_method_41_code
def yX12_like : MethodName := ⟨RX12, "like", "(II)Z"⟩
abbrev cX12_gather : ByteArray := prog_14_method_42_code
def yX12_gather : MethodName := ⟨RX12, "gather", "([I)J"⟩
abbrev cX12_third : ByteArray := prog_14_method_43_code
def yX12_third : MethodName := ⟨RX12, "third", "(I)J"⟩
abbrev cX12_orders : ByteArray := prog_14_method_44_code
def yX12_orders : MethodName := ⟨RX12, "orders", "(I)J"⟩
abbrev cX12_thirds : ByteArray := prog_14_method_45_code
def yX12_thirds : MethodName := ⟨RX12, "thirds", "()J"⟩
abbrev cX12_rounds : ByteArray := prog_14_method_46_code
def yX12_rounds : MethodName := ⟨RX12, "rounds", "()I"⟩
abbrev cX12_heightOf : ByteArray := prog_14_method_47_code
def yX12_heightOf : MethodName := ⟨RX12, "heightOf", "(III)I"⟩
abbrev cX12_tree : ByteArray := prog_14_method_48_code
def yX12_tree : MethodName := ⟨RX12, "tree", "(I)I"⟩
abbrev cX12_joined : ByteArray := prog_14_method_49_code
def yX12_joined : MethodName := ⟨RX12, "joined", "(II)I"⟩
abbrev cX12_join : ByteArray := prog_14_method_50_code
def yX12_join : MethodName := ⟨RX12, "join", "(I)V"⟩
abbrev cX12_height : ByteArray := prog_14_method_51_code
def yX12_height : MethodName := ⟨RX12, "height", "(II)I"⟩
abbrev cX12_cut : ByteArray := prog_14_method_52_code
def yX12_cut : MethodName := ⟨RX12, "cut", "(I)I"⟩
abbrev cX12_stirling : ByteArray := prog_14_method_53_code
def yX12_stirling : MethodName := ⟨RX12, "stirling", "(II)J"⟩
abbrev cX12_many : ByteArray := prog_14_method_54_code
def yX12_many : MethodName := ⟨RX12, "many", "(II)J"⟩
abbrev cX12_waysOn : ByteArray := prog_14_method_55_code
def yX12_waysOn : MethodName := ⟨RX12, "waysOn", "(II)J"⟩
abbrev cX12_rank : ByteArray := prog_14_method_56_code
def yX12_rank : MethodName := ⟨RX12, "rank", "()J"⟩
abbrev cX12_of : ByteArray := prog_14_method_57_code
def yX12_of : MethodName := ⟨RX12, "of", "(J)Z"⟩
abbrev cX12_keep : ByteArray := prog_14_method_58_code
def yX12_keep : MethodName := ⟨RX12, "keep", "(I)Z"⟩
abbrev cX12_keepWhy : ByteArray := prog_14_method_59_code
def yX12_keepWhy : MethodName := ⟨RX12, "keepWhy", "(I)I"⟩
abbrev cX12_differ : ByteArray := prog_14_method_60_code
def yX12_differ : MethodName := ⟨RX12, "differ", "(I)I"⟩
abbrev cX12_both : ByteArray := prog_14_method_61_code
def yX12_both : MethodName := ⟨RX12, "both", "(I)I"⟩
abbrev cX12_tell : ByteArray := prog_14_method_62_code
def yX12_tell : MethodName := ⟨RX12, "tell", "(I)I"⟩
abbrev cX12_takeList : ByteArray := prog_14_method_63_code
def yX12_takeList : MethodName := ⟨RX12, "takeList", "()Z"⟩
abbrev cX12_check : ByteArray := prog_14_method_64_code
def yX12_check : MethodName := ⟨RX12, "check", "(IJ)I"⟩
abbrev cX12_load : ByteArray := prog_14_method_65_code
def yX12_load : MethodName := ⟨RX12, "load", "()I"⟩
abbrev cX12_undo : ByteArray := prog_14_method_66_code
def yX12_undo : MethodName := ⟨RX12, "undo", "()I"⟩
abbrev cX12_fault : ByteArray := prog_14_method_67_code
def yX12_fault : MethodName := ⟨RX12, "fault", "()I"⟩
def RJ6 : String := "java/lang/Integer"
def TJ6 : u_T := fun k => match k with
  | _ => ("", "", "", false)
def tyJ6 : Nat → FieldType := fun k => match k with
  | _ => .int
theorem nmJ6 : ∀ a, a < 0 → ∀ b, b < 0 → a ≠ b → (TJ6 a).2.1 ≠ (TJ6 b).2.1 := by decide +kernel
theorem tyJ6_ok : ∀ k, k < 0 → parseFieldDescriptor (TJ6 k).2.2.1 = some (tyJ6 k) := by decide +kernel
abbrev cJ6_bitCount_0f7a4 : ByteArray := prog_15_method_49_code
def yJ6_bitCount_0f7a4 : MethodName := ⟨RJ6, "bitCount", "(I)I"⟩
def RJ9 : String := "java/lang/Math"
def TJ9 : u_T := fun k => match k with
  | _ => ("", "", "", false)
def tyJ9 : Nat → FieldType := fun k => match k with
  | _ => .int
theorem nmJ9 : ∀ a, a < 0 → ∀ b, b < 0 → a ≠ b → (TJ9 a).2.1 ≠ (TJ9 b).2.1 := by decide +kernel
theorem tyJ9_ok : ∀ k, k < 0 → parseFieldDescriptor (TJ9 k).2.2.1 = some (tyJ9 k) := by decide +kernel
abbrev cJ9_abs_0f7a4 : ByteArray := prog_16_method_59_code
def yJ9_abs_0f7a4 : MethodName := ⟨RJ9, "abs", "(I)I"⟩
abbrev cJ9_max_7cf53 : ByteArray := prog_16_method_65_code
def yJ9_max_7cf53 : MethodName := ⟨RJ9, "max", "(II)I"⟩
abbrev cJ9_max_f86c9 : ByteArray := prog_16_method_66_code
def yJ9_max_f86c9 : MethodName := ⟨RJ9, "max", "(JJ)J"⟩
abbrev cJ9_min_7cf53 : ByteArray := prog_16_method_69_code
def yJ9_min_7cf53 : MethodName := ⟨RJ9, "min", "(II)I"⟩
def RJ10 : String := "java/lang/System"
def TJ10 : u_T := fun k => match k with
  | _ => ("", "", "", false)
def tyJ10 : Nat → FieldType := fun k => match k with
  | _ => .int
theorem nmJ10 : ∀ a, a < 0 → ∀ b, b < 0 → a ≠ b → (TJ10 a).2.1 ≠ (TJ10 b).2.1 := by decide +kernel
theorem tyJ10_ok : ∀ k, k < 0 → parseFieldDescriptor (TJ10 k).2.2.1 = some (tyJ10 k) := by decide +kernel
def RJ7 : String := "java/util/Arrays"
def TJ7 : u_T := fun k => match k with
  | _ => ("", "", "", false)
def tyJ7 : Nat → FieldType := fun k => match k with
  | _ => .int
theorem nmJ7 : ∀ a, a < 0 → ∀ b, b < 0 → a ≠ b → (TJ7 a).2.1 ≠ (TJ7 b).2.1 := by decide +kernel
theorem tyJ7_ok : ∀ k, k < 0 → parseFieldDescriptor (TJ7 k).2.2.1 = some (tyJ7 k) := by decide +kernel
abbrev cJ7_fill_d0a16 : ByteArray := prog_18_method_101_code
def yJ7_fill_d0a16 : MethodName := ⟨RJ7, "fill", "([JJ)V"⟩
abbrev cJ7_fill_53178 : ByteArray := prog_18_method_103_code
def yJ7_fill_53178 : MethodName := ⟨RJ7, "fill", "([II)V"⟩
def RL : String := "HeapBenchLaw"
abbrev cL_law : ByteArray := code
def yL_law : MethodName := ⟨RL, "law", "([I)Z"⟩
abbrev vwCl : List vw_C := [(RX1, TX1, 3), (RX2, TX2, 2), (RX3, TX3, 4), (RX4, TX4, 3), (RX5, TX5, 2), (RX6, TX6, 4), (RX7, TX7, 6), (RX8, TX8, 8), (RX9, TX9, 3), (RX10, TX10, 7), (RX11, TX11, 12), (RX12, TX12, 25)]
end
section
theorem dX0_ofParting_0 : decode cX0_ofParting 0 = .ok (.aload_n 0, 1) := by decide +kernel
theorem dX0_ofParting_1 : decode cX0_ofParting 1 = .ok (.iload_n 1, 1) := by decide +kernel
theorem dX0_ofParting_2 : decode cX0_ofParting 2 = .ok (.invokestatic 9, 3) := by decide +kernel
theorem dX0_ofParting_5 : decode cX0_ofParting 5 = .ok (.lstore_n 3, 1) := by decide +kernel
theorem dX0_ofParting_6 : decode cX0_ofParting 6 = .ok (.iconst 0, 1) := by decide +kernel
theorem dX0_ofParting_7 : decode cX0_ofParting 7 = .ok (.istore 5, 2) := by decide +kernel
theorem dX0_ofParting_9 : decode cX0_ofParting 9 = .ok (.iload 5, 2) := by decide +kernel
theorem dX0_ofParting_11 : decode cX0_ofParting 11 = .ok (.aload_n 2, 1) := by decide +kernel
theorem dX0_ofParting_12 : decode cX0_ofParting 12 = .ok (.getfield 15, 3) := by decide +kernel
theorem dX0_ofParting_15 : decode cX0_ofParting 15 = .ok (.if_icmp .ge 26, 3) := by decide +kernel
theorem dX0_ofParting_18 : decode cX0_ofParting 18 = .ok (.iload_n 1, 1) := by decide +kernel
theorem dX0_ofParting_19 : decode cX0_ofParting 19 = .ok (.lload_n 3, 1) := by decide +kernel
theorem dX0_ofParting_20 : decode cX0_ofParting 20 = .ok (.aload_n 0, 1) := by decide +kernel
theorem dX0_ofParting_21 : decode cX0_ofParting 21 = .ok (.iload_n 1, 1) := by decide +kernel
theorem dX0_ofParting_22 : decode cX0_ofParting 22 = .ok (.aload_n 2, 1) := by decide +kernel
theorem dX0_ofParting_23 : decode cX0_ofParting 23 = .ok (.iload 5, 2) := by decide +kernel
theorem dX0_ofParting_25 : decode cX0_ofParting 25 = .ok (.invokevirtual 21, 3) := by decide +kernel
theorem dX0_ofParting_28 : decode cX0_ofParting 28 = .ok (.invokestatic 25, 3) := by decide +kernel
theorem dX0_ofParting_31 : decode cX0_ofParting 31 = .ok (.invokestatic 29, 3) := by decide +kernel
theorem dX0_ofParting_34 : decode cX0_ofParting 34 = .ok (.lstore_n 3, 1) := by decide +kernel
theorem dX0_ofParting_35 : decode cX0_ofParting 35 = .ok (.iinc 5 1, 3) := by decide +kernel
theorem dX0_ofParting_38 : decode cX0_ofParting 38 = .ok (.goto (-29), 3) := by decide +kernel
theorem dX0_ofParting_41 : decode cX0_ofParting 41 = .ok (.lload_n 3, 1) := by decide +kernel
theorem dX0_ofParting_42 : decode cX0_ofParting 42 = .ok (.lreturn, 1) := by decide +kernel
theorem dX0_ground_0 : decode cX0_ground 0 = .ok (.lconst 0, 1) := by decide +kernel
theorem dX0_ground_1 : decode cX0_ground 1 = .ok (.lstore_n 2, 1) := by decide +kernel
theorem dX0_ground_2 : decode cX0_ground 2 = .ok (.iconst 1, 1) := by decide +kernel
theorem dX0_ground_3 : decode cX0_ground 3 = .ok (.istore 4, 2) := by decide +kernel
theorem dX0_ground_5 : decode cX0_ground 5 = .ok (.iload 4, 2) := by decide +kernel
theorem dX0_ground_7 : decode cX0_ground 7 = .ok (.aload_n 0, 1) := by decide +kernel
theorem dX0_ground_8 : decode cX0_ground 8 = .ok (.getfield 33, 3) := by decide +kernel
theorem dX0_ground_11 : decode cX0_ground 11 = .ok (.if_icmp .ge 51, 3) := by decide +kernel
theorem dX0_ground_14 : decode cX0_ground 14 = .ok (.iload_n 1, 1) := by decide +kernel
theorem dX0_ground_15 : decode cX0_ground 15 = .ok (.iconst 3, 1) := by decide +kernel
theorem dX0_ground_16 : decode cX0_ground 16 = .ok (.if_icmp .ne 46, 3) := by decide +kernel
theorem dX0_ground_19 : decode cX0_ground 19 = .ok (.iconst 0, 1) := by decide +kernel
theorem dX0_ground_20 : decode cX0_ground 20 = .ok (.istore 5, 2) := by decide +kernel
theorem dX0_ground_22 : decode cX0_ground 22 = .ok (.iload 5, 2) := by decide +kernel
theorem dX0_ground_24 : decode cX0_ground 24 = .ok (.iload 4, 2) := by decide +kernel
theorem dX0_ground_26 : decode cX0_ground 26 = .ok (.if_icmp .ge 30, 3) := by decide +kernel
theorem dX0_ground_29 : decode cX0_ground 29 = .ok (.lload_n 2, 1) := by decide +kernel
theorem dX0_ground_30 : decode cX0_ground 30 = .ok (.aload_n 0, 1) := by decide +kernel
theorem dX0_ground_31 : decode cX0_ground 31 = .ok (.iload 4, 2) := by decide +kernel
theorem dX0_ground_33 : decode cX0_ground 33 = .ok (.iload 5, 2) := by decide +kernel
theorem dX0_ground_35 : decode cX0_ground 35 = .ok (.invokevirtual 38, 3) := by decide +kernel
theorem dX0_ground_38 : decode cX0_ground 38 = .ok (.aload_n 0, 1) := by decide +kernel
theorem dX0_ground_39 : decode cX0_ground 39 = .ok (.iload 4, 2) := by decide +kernel
theorem dX0_ground_41 : decode cX0_ground 41 = .ok (.iload 5, 2) := by decide +kernel
theorem dX0_ground_43 : decode cX0_ground 43 = .ok (.invokevirtual 42, 3) := by decide +kernel
theorem dX0_ground_46 : decode cX0_ground 46 = .ok (.imul, 1) := by decide +kernel
theorem dX0_ground_47 : decode cX0_ground 47 = .ok (.i2l, 1) := by decide +kernel
theorem dX0_ground_48 : decode cX0_ground 48 = .ok (.ladd, 1) := by decide +kernel
theorem dX0_ground_49 : decode cX0_ground 49 = .ok (.lstore_n 2, 1) := by decide +kernel
theorem dX0_ground_50 : decode cX0_ground 50 = .ok (.iinc 5 1, 3) := by decide +kernel
theorem dX0_ground_53 : decode cX0_ground 53 = .ok (.goto (-31), 3) := by decide +kernel
theorem dX0_ground_56 : decode cX0_ground 56 = .ok (.iinc 4 1, 3) := by decide +kernel
theorem dX0_ground_59 : decode cX0_ground 59 = .ok (.goto (-54), 3) := by decide +kernel
theorem dX0_ground_62 : decode cX0_ground 62 = .ok (.lload_n 2, 1) := by decide +kernel
theorem dX0_ground_63 : decode cX0_ground 63 = .ok (.lreturn, 1) := by decide +kernel
theorem dX0_with_0 : decode cX0_with 0 = .ok (.iload_n 0, 1) := by decide +kernel
theorem dX0_with_1 : decode cX0_with 1 = .ok (.iconst 2, 1) := by decide +kernel
theorem dX0_with_2 : decode cX0_with 2 = .ok (.if_icmp .ne 11, 3) := by decide +kernel
theorem dX0_with_5 : decode cX0_with 5 = .ok (.lload_n 1, 1) := by decide +kernel
theorem dX0_with_6 : decode cX0_with 6 = .ok (.lload_n 3, 1) := by decide +kernel
theorem dX0_with_7 : decode cX0_with 7 = .ok (.invokestatic 45, 3) := by decide +kernel
theorem dX0_with_10 : decode cX0_with 10 = .ok (.goto 6, 3) := by decide +kernel
theorem dX0_with_13 : decode cX0_with 13 = .ok (.lload_n 1, 1) := by decide +kernel
theorem dX0_with_14 : decode cX0_with 14 = .ok (.lload_n 3, 1) := by decide +kernel
theorem dX0_with_15 : decode cX0_with 15 = .ok (.ladd, 1) := by decide +kernel
theorem dX0_with_16 : decode cX0_with 16 = .ok (.lreturn, 1) := by decide +kernel
theorem dX0_ofHeap_0 : decode cX0_ofHeap 0 = .ok (.iload_n 1, 1) := by decide +kernel
theorem dX0_ofHeap_1 : decode cX0_ofHeap 1 = .ok (.tableswitch 50 0 2 #[27, 33, 44], 27) := by decide +kernel
theorem dX0_ofHeap_28 : decode cX0_ofHeap 28 = .ok (.aload_n 0, 1) := by decide +kernel
theorem dX0_ofHeap_29 : decode cX0_ofHeap 29 = .ok (.iload_n 2, 1) := by decide +kernel
theorem dX0_ofHeap_30 : decode cX0_ofHeap 30 = .ok (.invokestatic 51, 3) := by decide +kernel
theorem dX0_ofHeap_33 : decode cX0_ofHeap 33 = .ok (.lreturn, 1) := by decide +kernel
theorem dX0_ofHeap_34 : decode cX0_ofHeap 34 = .ok (.aload_n 0, 1) := by decide +kernel
theorem dX0_ofHeap_35 : decode cX0_ofHeap 35 = .ok (.aload_n 0, 1) := by decide +kernel
theorem dX0_ofHeap_36 : decode cX0_ofHeap 36 = .ok (.iload_n 2, 1) := by decide +kernel
theorem dX0_ofHeap_37 : decode cX0_ofHeap 37 = .ok (.invokestatic 54, 3) := by decide +kernel
theorem dX0_ofHeap_40 : decode cX0_ofHeap 40 = .ok (.iload_n 2, 1) := by decide +kernel
theorem dX0_ofHeap_41 : decode cX0_ofHeap 41 = .ok (.invokestatic 58, 3) := by decide +kernel
theorem dX0_ofHeap_44 : decode cX0_ofHeap 44 = .ok (.lreturn, 1) := by decide +kernel
theorem dX0_ofHeap_45 : decode cX0_ofHeap 45 = .ok (.aload_n 0, 1) := by decide +kernel
theorem dX0_ofHeap_46 : decode cX0_ofHeap 46 = .ok (.iload_n 2, 1) := by decide +kernel
theorem dX0_ofHeap_47 : decode cX0_ofHeap 47 = .ok (.invokestatic 61, 3) := by decide +kernel
theorem dX0_ofHeap_50 : decode cX0_ofHeap 50 = .ok (.lreturn, 1) := by decide +kernel
theorem dX0_ofHeap_51 : decode cX0_ofHeap 51 = .ok (.aload_n 0, 1) := by decide +kernel
theorem dX0_ofHeap_52 : decode cX0_ofHeap 52 = .ok (.iload_n 2, 1) := by decide +kernel
theorem dX0_ofHeap_53 : decode cX0_ofHeap 53 = .ok (.invokestatic 64, 3) := by decide +kernel
theorem dX0_ofHeap_56 : decode cX0_ofHeap 56 = .ok (.lreturn, 1) := by decide +kernel
theorem dX0_has_0 : decode cX0_has 0 = .ok (.iload_n 0, 1) := by decide +kernel
theorem dX0_has_1 : decode cX0_has 1 = .ok (.iload_n 1, 1) := by decide +kernel
theorem dX0_has_2 : decode cX0_has 2 = .ok (.ishr, 1) := by decide +kernel
theorem dX0_has_3 : decode cX0_has 3 = .ok (.iconst 1, 1) := by decide +kernel
theorem dX0_has_4 : decode cX0_has 4 = .ok (.iand, 1) := by decide +kernel
theorem dX0_has_5 : decode cX0_has 5 = .ok (.iconst 1, 1) := by decide +kernel
theorem dX0_has_6 : decode cX0_has 6 = .ok (.if_icmp .ne 7, 3) := by decide +kernel
theorem dX0_has_9 : decode cX0_has 9 = .ok (.iconst 1, 1) := by decide +kernel
theorem dX0_has_10 : decode cX0_has 10 = .ok (.goto 4, 3) := by decide +kernel
theorem dX0_has_13 : decode cX0_has 13 = .ok (.iconst 0, 1) := by decide +kernel
theorem dX0_has_14 : decode cX0_has 14 = .ok (.ireturn, 1) := by decide +kernel
theorem dX0_spread_0 : decode cX0_spread 0 = .ok (.lconst 0, 1) := by decide +kernel
theorem dX0_spread_1 : decode cX0_spread 1 = .ok (.lstore_n 2, 1) := by decide +kernel
theorem dX0_spread_2 : decode cX0_spread 2 = .ok (.iconst 0, 1) := by decide +kernel
theorem dX0_spread_3 : decode cX0_spread 3 = .ok (.istore 4, 2) := by decide +kernel
theorem dX0_spread_5 : decode cX0_spread 5 = .ok (.iconst 0, 1) := by decide +kernel
theorem dX0_spread_6 : decode cX0_spread 6 = .ok (.istore 5, 2) := by decide +kernel
theorem dX0_spread_8 : decode cX0_spread 8 = .ok (.iload 5, 2) := by decide +kernel
theorem dX0_spread_10 : decode cX0_spread 10 = .ok (.aload_n 0, 1) := by decide +kernel
theorem dX0_spread_11 : decode cX0_spread 11 = .ok (.getfield 33, 3) := by decide +kernel
theorem dX0_spread_14 : decode cX0_spread 14 = .ok (.if_icmp .ge 68, 3) := by decide +kernel
theorem dX0_spread_17 : decode cX0_spread 17 = .ok (.iload_n 1, 1) := by decide +kernel
theorem dX0_spread_18 : decode cX0_spread 18 = .ok (.iload 5, 2) := by decide +kernel
theorem dX0_spread_20 : decode cX0_spread 20 = .ok (.invokestatic 67, 3) := by decide +kernel
theorem dX0_spread_23 : decode cX0_spread 23 = .ok (.ifCond .ne 6, 3) := by decide +kernel
theorem dX0_spread_26 : decode cX0_spread 26 = .ok (.goto 50, 3) := by decide +kernel
theorem dX0_spread_29 : decode cX0_spread 29 = .ok (.iinc 4 1, 3) := by decide +kernel
theorem dX0_spread_32 : decode cX0_spread 32 = .ok (.iconst 0, 1) := by decide +kernel
theorem dX0_spread_33 : decode cX0_spread 33 = .ok (.istore 6, 2) := by decide +kernel
theorem dX0_spread_35 : decode cX0_spread 35 = .ok (.iload 6, 2) := by decide +kernel
theorem dX0_spread_37 : decode cX0_spread 37 = .ok (.iload 5, 2) := by decide +kernel
theorem dX0_spread_39 : decode cX0_spread 39 = .ok (.if_icmp .ge 37, 3) := by decide +kernel
theorem dX0_spread_42 : decode cX0_spread 42 = .ok (.iload_n 1, 1) := by decide +kernel
theorem dX0_spread_43 : decode cX0_spread 43 = .ok (.iload 6, 2) := by decide +kernel
theorem dX0_spread_45 : decode cX0_spread 45 = .ok (.invokestatic 67, 3) := by decide +kernel
theorem dX0_spread_48 : decode cX0_spread 48 = .ok (.ifCond .eq 22, 3) := by decide +kernel
theorem dX0_spread_51 : decode cX0_spread 51 = .ok (.aload_n 0, 1) := by decide +kernel
theorem dX0_spread_52 : decode cX0_spread 52 = .ok (.iload 5, 2) := by decide +kernel
theorem dX0_spread_54 : decode cX0_spread 54 = .ok (.iload 6, 2) := by decide +kernel
theorem dX0_spread_56 : decode cX0_spread 56 = .ok (.invokevirtual 71, 3) := by decide +kernel
theorem dX0_spread_59 : decode cX0_spread 59 = .ok (.i2l, 1) := by decide +kernel
theorem dX0_spread_60 : decode cX0_spread 60 = .ok (.lstore 7, 2) := by decide +kernel
theorem dX0_spread_62 : decode cX0_spread 62 = .ok (.lload_n 2, 1) := by decide +kernel
theorem dX0_spread_63 : decode cX0_spread 63 = .ok (.lload 7, 2) := by decide +kernel
theorem dX0_spread_65 : decode cX0_spread 65 = .ok (.lload 7, 2) := by decide +kernel
theorem dX0_spread_67 : decode cX0_spread 67 = .ok (.lmul, 1) := by decide +kernel
theorem dX0_spread_68 : decode cX0_spread 68 = .ok (.ladd, 1) := by decide +kernel
theorem dX0_spread_69 : decode cX0_spread 69 = .ok (.lstore_n 2, 1) := by decide +kernel
theorem dX0_spread_70 : decode cX0_spread 70 = .ok (.iinc 6 1, 3) := by decide +kernel
theorem dX0_spread_73 : decode cX0_spread 73 = .ok (.goto (-38), 3) := by decide +kernel
theorem dX0_spread_76 : decode cX0_spread 76 = .ok (.iinc 5 1, 3) := by decide +kernel
theorem dX0_spread_79 : decode cX0_spread 79 = .ok (.goto (-71), 3) := by decide +kernel
theorem dX0_spread_82 : decode cX0_spread 82 = .ok (.iload 4, 2) := by decide +kernel
theorem dX0_spread_84 : decode cX0_spread 84 = .ok (.ifCond .ne 7, 3) := by decide +kernel
theorem dX0_spread_87 : decode cX0_spread 87 = .ok (.lconst 0, 1) := by decide +kernel
theorem dX0_spread_88 : decode cX0_spread 88 = .ok (.goto 12, 3) := by decide +kernel
theorem dX0_spread_91 : decode cX0_spread 91 = .ok (.lload_n 2, 1) := by decide +kernel
theorem dX0_spread_92 : decode cX0_spread 92 = .ok (.ldc2_w 74, 3) := by decide +kernel
theorem dX0_spread_95 : decode cX0_spread 95 = .ok (.lmul, 1) := by decide +kernel
theorem dX0_spread_96 : decode cX0_spread 96 = .ok (.iload 4, 2) := by decide +kernel
theorem dX0_spread_98 : decode cX0_spread 98 = .ok (.i2l, 1) := by decide +kernel
theorem dX0_spread_99 : decode cX0_spread 99 = .ok (.ldiv, 1) := by decide +kernel
theorem dX0_spread_100 : decode cX0_spread 100 = .ok (.lreturn, 1) := by decide +kernel
theorem dX0_middleOf_0 : decode cX0_middleOf 0 = .ok (.iconst (-1), 1) := by decide +kernel
theorem dX0_middleOf_1 : decode cX0_middleOf 1 = .ok (.istore_n 2, 1) := by decide +kernel
theorem dX0_middleOf_2 : decode cX0_middleOf 2 = .ok (.ldc2_w 78, 3) := by decide +kernel
theorem dX0_middleOf_5 : decode cX0_middleOf 5 = .ok (.lstore_n 3, 1) := by decide +kernel
theorem dX0_middleOf_6 : decode cX0_middleOf 6 = .ok (.iconst 0, 1) := by decide +kernel
theorem dX0_middleOf_7 : decode cX0_middleOf 7 = .ok (.istore 5, 2) := by decide +kernel
theorem dX0_middleOf_9 : decode cX0_middleOf 9 = .ok (.iload 5, 2) := by decide +kernel
theorem dX0_middleOf_11 : decode cX0_middleOf 11 = .ok (.aload_n 0, 1) := by decide +kernel
theorem dX0_middleOf_12 : decode cX0_middleOf 12 = .ok (.getfield 33, 3) := by decide +kernel
theorem dX0_middleOf_15 : decode cX0_middleOf 15 = .ok (.if_icmp .ge 40, 3) := by decide +kernel
theorem dX0_middleOf_18 : decode cX0_middleOf 18 = .ok (.iload_n 1, 1) := by decide +kernel
theorem dX0_middleOf_19 : decode cX0_middleOf 19 = .ok (.iload 5, 2) := by decide +kernel
theorem dX0_middleOf_21 : decode cX0_middleOf 21 = .ok (.invokestatic 67, 3) := by decide +kernel
theorem dX0_middleOf_24 : decode cX0_middleOf 24 = .ok (.ifCond .eq 25, 3) := by decide +kernel
theorem dX0_middleOf_27 : decode cX0_middleOf 27 = .ok (.aload_n 0, 1) := by decide +kernel
theorem dX0_middleOf_28 : decode cX0_middleOf 28 = .ok (.iload 5, 2) := by decide +kernel
theorem dX0_middleOf_30 : decode cX0_middleOf 30 = .ok (.iload_n 1, 1) := by decide +kernel
theorem dX0_middleOf_31 : decode cX0_middleOf 31 = .ok (.invokestatic 58, 3) := by decide +kernel
theorem dX0_middleOf_34 : decode cX0_middleOf 34 = .ok (.lstore 6, 2) := by decide +kernel
theorem dX0_middleOf_36 : decode cX0_middleOf 36 = .ok (.lload 6, 2) := by decide +kernel
theorem dX0_middleOf_38 : decode cX0_middleOf 38 = .ok (.lload_n 3, 1) := by decide +kernel
theorem dX0_middleOf_39 : decode cX0_middleOf 39 = .ok (.lcmp, 1) := by decide +kernel
theorem dX0_middleOf_40 : decode cX0_middleOf 40 = .ok (.ifCond .ge 9, 3) := by decide +kernel
theorem dX0_middleOf_43 : decode cX0_middleOf 43 = .ok (.lload 6, 2) := by decide +kernel
theorem dX0_middleOf_45 : decode cX0_middleOf 45 = .ok (.lstore_n 3, 1) := by decide +kernel
theorem dX0_middleOf_46 : decode cX0_middleOf 46 = .ok (.iload 5, 2) := by decide +kernel
theorem dX0_middleOf_48 : decode cX0_middleOf 48 = .ok (.istore_n 2, 1) := by decide +kernel
theorem dX0_middleOf_49 : decode cX0_middleOf 49 = .ok (.iinc 5 1, 3) := by decide +kernel
theorem dX0_middleOf_52 : decode cX0_middleOf 52 = .ok (.goto (-43), 3) := by decide +kernel
theorem dX0_middleOf_55 : decode cX0_middleOf 55 = .ok (.iload_n 2, 1) := by decide +kernel
theorem dX0_middleOf_56 : decode cX0_middleOf 56 = .ok (.ireturn, 1) := by decide +kernel
theorem dX0_sumFrom_0 : decode cX0_sumFrom 0 = .ok (.lconst 0, 1) := by decide +kernel
theorem dX0_sumFrom_1 : decode cX0_sumFrom 1 = .ok (.lstore_n 3, 1) := by decide +kernel
theorem dX0_sumFrom_2 : decode cX0_sumFrom 2 = .ok (.iconst 0, 1) := by decide +kernel
theorem dX0_sumFrom_3 : decode cX0_sumFrom 3 = .ok (.istore 5, 2) := by decide +kernel
theorem dX0_sumFrom_5 : decode cX0_sumFrom 5 = .ok (.iload 5, 2) := by decide +kernel
theorem dX0_sumFrom_7 : decode cX0_sumFrom 7 = .ok (.aload_n 0, 1) := by decide +kernel
theorem dX0_sumFrom_8 : decode cX0_sumFrom 8 = .ok (.getfield 33, 3) := by decide +kernel
theorem dX0_sumFrom_11 : decode cX0_sumFrom 11 = .ok (.if_icmp .ge 33, 3) := by decide +kernel
theorem dX0_sumFrom_14 : decode cX0_sumFrom 14 = .ok (.iload_n 1, 1) := by decide +kernel
theorem dX0_sumFrom_15 : decode cX0_sumFrom 15 = .ok (.ifCond .lt 29, 3) := by decide +kernel
theorem dX0_sumFrom_18 : decode cX0_sumFrom 18 = .ok (.iload_n 2, 1) := by decide +kernel
theorem dX0_sumFrom_19 : decode cX0_sumFrom 19 = .ok (.iload 5, 2) := by decide +kernel
theorem dX0_sumFrom_21 : decode cX0_sumFrom 21 = .ok (.invokestatic 67, 3) := by decide +kernel
theorem dX0_sumFrom_24 : decode cX0_sumFrom 24 = .ok (.ifCond .eq 14, 3) := by decide +kernel
theorem dX0_sumFrom_27 : decode cX0_sumFrom 27 = .ok (.lload_n 3, 1) := by decide +kernel
theorem dX0_sumFrom_28 : decode cX0_sumFrom 28 = .ok (.aload_n 0, 1) := by decide +kernel
theorem dX0_sumFrom_29 : decode cX0_sumFrom 29 = .ok (.iload_n 1, 1) := by decide +kernel
theorem dX0_sumFrom_30 : decode cX0_sumFrom 30 = .ok (.iload 5, 2) := by decide +kernel
theorem dX0_sumFrom_32 : decode cX0_sumFrom 32 = .ok (.invokevirtual 71, 3) := by decide +kernel
theorem dX0_sumFrom_35 : decode cX0_sumFrom 35 = .ok (.i2l, 1) := by decide +kernel
theorem dX0_sumFrom_36 : decode cX0_sumFrom 36 = .ok (.ladd, 1) := by decide +kernel
theorem dX0_sumFrom_37 : decode cX0_sumFrom 37 = .ok (.lstore_n 3, 1) := by decide +kernel
theorem dX0_sumFrom_38 : decode cX0_sumFrom 38 = .ok (.iinc 5 1, 3) := by decide +kernel
theorem dX0_sumFrom_41 : decode cX0_sumFrom 41 = .ok (.goto (-36), 3) := by decide +kernel
theorem dX0_sumFrom_44 : decode cX0_sumFrom 44 = .ok (.lload_n 3, 1) := by decide +kernel
theorem dX0_sumFrom_45 : decode cX0_sumFrom 45 = .ok (.lreturn, 1) := by decide +kernel
theorem dX0_width_0 : decode cX0_width 0 = .ok (.iconst 0, 1) := by decide +kernel
theorem dX0_width_1 : decode cX0_width 1 = .ok (.istore_n 2, 1) := by decide +kernel
theorem dX0_width_2 : decode cX0_width 2 = .ok (.iconst 1, 1) := by decide +kernel
theorem dX0_width_3 : decode cX0_width 3 = .ok (.istore_n 3, 1) := by decide +kernel
theorem dX0_width_4 : decode cX0_width 4 = .ok (.iload_n 3, 1) := by decide +kernel
theorem dX0_width_5 : decode cX0_width 5 = .ok (.aload_n 0, 1) := by decide +kernel
theorem dX0_width_6 : decode cX0_width 6 = .ok (.getfield 33, 3) := by decide +kernel
theorem dX0_width_9 : decode cX0_width 9 = .ok (.if_icmp .ge 29, 3) := by decide +kernel
theorem dX0_width_12 : decode cX0_width 12 = .ok (.iload_n 1, 1) := by decide +kernel
theorem dX0_width_13 : decode cX0_width 13 = .ok (.iload_n 3, 1) := by decide +kernel
theorem dX0_width_14 : decode cX0_width 14 = .ok (.invokestatic 67, 3) := by decide +kernel
theorem dX0_width_17 : decode cX0_width 17 = .ok (.ifCond .eq 15, 3) := by decide +kernel
theorem dX0_width_20 : decode cX0_width 20 = .ok (.iload_n 2, 1) := by decide +kernel
theorem dX0_width_21 : decode cX0_width 21 = .ok (.aload_n 0, 1) := by decide +kernel
theorem dX0_width_22 : decode cX0_width 22 = .ok (.iload_n 3, 1) := by decide +kernel
theorem dX0_width_23 : decode cX0_width 23 = .ok (.iload_n 1, 1) := by decide +kernel
theorem dX0_width_24 : decode cX0_width 24 = .ok (.iload_n 3, 1) := by decide +kernel
theorem dX0_width_25 : decode cX0_width 25 = .ok (.invokestatic 80, 3) := by decide +kernel
theorem dX0_width_28 : decode cX0_width 28 = .ok (.invokestatic 84, 3) := by decide +kernel
theorem dX0_width_31 : decode cX0_width 31 = .ok (.istore_n 2, 1) := by decide +kernel
theorem dX0_width_32 : decode cX0_width 32 = .ok (.iinc 3 1, 3) := by decide +kernel
theorem dX0_width_35 : decode cX0_width 35 = .ok (.goto (-31), 3) := by decide +kernel
theorem dX0_width_38 : decode cX0_width 38 = .ok (.iload_n 2, 1) := by decide +kernel
theorem dX0_width_39 : decode cX0_width 39 = .ok (.i2l, 1) := by decide +kernel
theorem dX0_width_40 : decode cX0_width 40 = .ok (.lreturn, 1) := by decide +kernel
theorem dX0_reach_0 : decode cX0_reach 0 = .ok (.iconst 0, 1) := by decide +kernel
theorem dX0_reach_1 : decode cX0_reach 1 = .ok (.istore 4, 2) := by decide +kernel
theorem dX0_reach_3 : decode cX0_reach 3 = .ok (.iconst 0, 1) := by decide +kernel
theorem dX0_reach_4 : decode cX0_reach 4 = .ok (.istore 5, 2) := by decide +kernel
theorem dX0_reach_6 : decode cX0_reach 6 = .ok (.iload 5, 2) := by decide +kernel
theorem dX0_reach_8 : decode cX0_reach 8 = .ok (.iload_n 3, 1) := by decide +kernel
theorem dX0_reach_9 : decode cX0_reach 9 = .ok (.if_icmp .ge 32, 3) := by decide +kernel
theorem dX0_reach_12 : decode cX0_reach 12 = .ok (.iload_n 2, 1) := by decide +kernel
theorem dX0_reach_13 : decode cX0_reach 13 = .ok (.iload 5, 2) := by decide +kernel
theorem dX0_reach_15 : decode cX0_reach 15 = .ok (.invokestatic 67, 3) := by decide +kernel
theorem dX0_reach_18 : decode cX0_reach 18 = .ok (.ifCond .eq 17, 3) := by decide +kernel
theorem dX0_reach_21 : decode cX0_reach 21 = .ok (.iload 4, 2) := by decide +kernel
theorem dX0_reach_23 : decode cX0_reach 23 = .ok (.aload_n 0, 1) := by decide +kernel
theorem dX0_reach_24 : decode cX0_reach 24 = .ok (.iload_n 1, 1) := by decide +kernel
theorem dX0_reach_25 : decode cX0_reach 25 = .ok (.iload 5, 2) := by decide +kernel
theorem dX0_reach_27 : decode cX0_reach 27 = .ok (.invokevirtual 71, 3) := by decide +kernel
theorem dX0_reach_30 : decode cX0_reach 30 = .ok (.invokestatic 84, 3) := by decide +kernel
theorem dX0_reach_33 : decode cX0_reach 33 = .ok (.istore 4, 2) := by decide +kernel
theorem dX0_reach_35 : decode cX0_reach 35 = .ok (.iinc 5 1, 3) := by decide +kernel
theorem dX0_reach_38 : decode cX0_reach 38 = .ok (.goto (-32), 3) := by decide +kernel
theorem dX0_reach_41 : decode cX0_reach 41 = .ok (.iload 4, 2) := by decide +kernel
theorem dX0_reach_43 : decode cX0_reach 43 = .ok (.ireturn, 1) := by decide +kernel
theorem dX0_quarrels_0 : decode cX0_quarrels 0 = .ok (.lconst 0, 1) := by decide +kernel
theorem dX0_quarrels_1 : decode cX0_quarrels 1 = .ok (.lstore_n 2, 1) := by decide +kernel
theorem dX0_quarrels_2 : decode cX0_quarrels 2 = .ok (.iconst 1, 1) := by decide +kernel
theorem dX0_quarrels_3 : decode cX0_quarrels 3 = .ok (.istore 4, 2) := by decide +kernel
theorem dX0_quarrels_5 : decode cX0_quarrels 5 = .ok (.iload 4, 2) := by decide +kernel
theorem dX0_quarrels_7 : decode cX0_quarrels 7 = .ok (.aload_n 0, 1) := by decide +kernel
theorem dX0_quarrels_8 : decode cX0_quarrels 8 = .ok (.getfield 33, 3) := by decide +kernel
theorem dX0_quarrels_11 : decode cX0_quarrels 11 = .ok (.if_icmp .ge 78, 3) := by decide +kernel
theorem dX0_quarrels_14 : decode cX0_quarrels 14 = .ok (.iconst 0, 1) := by decide +kernel
theorem dX0_quarrels_15 : decode cX0_quarrels 15 = .ok (.istore 5, 2) := by decide +kernel
theorem dX0_quarrels_17 : decode cX0_quarrels 17 = .ok (.iload 5, 2) := by decide +kernel
theorem dX0_quarrels_19 : decode cX0_quarrels 19 = .ok (.iload 4, 2) := by decide +kernel
theorem dX0_quarrels_21 : decode cX0_quarrels 21 = .ok (.if_icmp .ge 62, 3) := by decide +kernel
theorem dX0_quarrels_24 : decode cX0_quarrels 24 = .ok (.iload_n 1, 1) := by decide +kernel
theorem dX0_quarrels_25 : decode cX0_quarrels 25 = .ok (.iload 4, 2) := by decide +kernel
theorem dX0_quarrels_27 : decode cX0_quarrels 27 = .ok (.invokestatic 67, 3) := by decide +kernel
theorem dX0_quarrels_30 : decode cX0_quarrels 30 = .ok (.ifCond .eq 53, 3) := by decide +kernel
theorem dX0_quarrels_33 : decode cX0_quarrels 33 = .ok (.iload_n 1, 1) := by decide +kernel
theorem dX0_quarrels_34 : decode cX0_quarrels 34 = .ok (.iload 5, 2) := by decide +kernel
theorem dX0_quarrels_36 : decode cX0_quarrels 36 = .ok (.invokestatic 67, 3) := by decide +kernel
theorem dX0_quarrels_39 : decode cX0_quarrels 39 = .ok (.ifCond .eq 38, 3) := by decide +kernel
theorem dX0_quarrels_42 : decode cX0_quarrels 42 = .ok (.aload_n 0, 1) := by decide +kernel
theorem dX0_quarrels_43 : decode cX0_quarrels 43 = .ok (.iload 4, 2) := by decide +kernel
theorem dX0_quarrels_45 : decode cX0_quarrels 45 = .ok (.iload 5, 2) := by decide +kernel
theorem dX0_quarrels_47 : decode cX0_quarrels 47 = .ok (.invokevirtual 42, 3) := by decide +kernel
theorem dX0_quarrels_50 : decode cX0_quarrels 50 = .ok (.istore 6, 2) := by decide +kernel
theorem dX0_quarrels_52 : decode cX0_quarrels 52 = .ok (.lload_n 2, 1) := by decide +kernel
theorem dX0_quarrels_53 : decode cX0_quarrels 53 = .ok (.aload_n 0, 1) := by decide +kernel
theorem dX0_quarrels_54 : decode cX0_quarrels 54 = .ok (.iload 4, 2) := by decide +kernel
theorem dX0_quarrels_56 : decode cX0_quarrels 56 = .ok (.iload 5, 2) := by decide +kernel
theorem dX0_quarrels_58 : decode cX0_quarrels 58 = .ok (.invokevirtual 38, 3) := by decide +kernel
theorem dX0_quarrels_61 : decode cX0_quarrels 61 = .ok (.iconst 1, 1) := by decide +kernel
theorem dX0_quarrels_62 : decode cX0_quarrels 62 = .ok (.if_icmp .ne 10, 3) := by decide +kernel
theorem dX0_quarrels_65 : decode cX0_quarrels 65 = .ok (.iload 6, 2) := by decide +kernel
theorem dX0_quarrels_67 : decode cX0_quarrels 67 = .ok (.ineg, 1) := by decide +kernel
theorem dX0_quarrels_68 : decode cX0_quarrels 68 = .ok (.i2l, 1) := by decide +kernel
theorem dX0_quarrels_69 : decode cX0_quarrels 69 = .ok (.goto 6, 3) := by decide +kernel
theorem dX0_quarrels_72 : decode cX0_quarrels 72 = .ok (.iload 6, 2) := by decide +kernel
theorem dX0_quarrels_74 : decode cX0_quarrels 74 = .ok (.i2l, 1) := by decide +kernel
theorem dX0_quarrels_75 : decode cX0_quarrels 75 = .ok (.ladd, 1) := by decide +kernel
theorem dX0_quarrels_76 : decode cX0_quarrels 76 = .ok (.lstore_n 2, 1) := by decide +kernel
theorem dX0_quarrels_77 : decode cX0_quarrels 77 = .ok (.iinc 5 1, 3) := by decide +kernel
theorem dX0_quarrels_80 : decode cX0_quarrels 80 = .ok (.goto (-63), 3) := by decide +kernel
theorem dX0_quarrels_83 : decode cX0_quarrels 83 = .ok (.iinc 4 1, 3) := by decide +kernel
theorem dX0_quarrels_86 : decode cX0_quarrels 86 = .ok (.goto (-81), 3) := by decide +kernel
theorem dX0_quarrels_89 : decode cX0_quarrels 89 = .ok (.lload_n 2, 1) := by decide +kernel
theorem dX0_quarrels_90 : decode cX0_quarrels 90 = .ok (.lreturn, 1) := by decide +kernel
theorem dX1_init_0 : decode cX1_init 0 = .ok (.aload_n 0, 1) := by decide +kernel
theorem dX1_init_1 : decode cX1_init 1 = .ok (.invokespecial 3, 3) := by decide +kernel
theorem dX1_init_4 : decode cX1_init 4 = .ok (.aload_n 0, 1) := by decide +kernel
theorem dX1_init_5 : decode cX1_init 5 = .ok (.iconst 0, 1) := by decide +kernel
theorem dX1_init_6 : decode cX1_init 6 = .ok (.putfield 9, 3) := by decide +kernel
theorem dX1_init_9 : decode cX1_init 9 = .ok (.aload_n 0, 1) := by decide +kernel
theorem dX1_init_10 : decode cX1_init 10 = .ok (.iconst 0, 1) := by decide +kernel
theorem dX1_init_11 : decode cX1_init 11 = .ok (.putfield 15, 3) := by decide +kernel
theorem dX1_init_14 : decode cX1_init 14 = .ok (.aload_n 0, 1) := by decide +kernel
theorem dX1_init_15 : decode cX1_init 15 = .ok (.bipush 20, 2) := by decide +kernel
theorem dX1_init_17 : decode cX1_init 17 = .ok (.anewarray 18, 3) := by decide +kernel
theorem dX1_init_20 : decode cX1_init 20 = .ok (.putfield 20, 3) := by decide +kernel
theorem dX1_init_23 : decode cX1_init 23 = .ok (.return_, 1) := by decide +kernel
theorem dX1_remember_0 : decode cX1_remember 0 = .ok (.aload_n 0, 1) := by decide +kernel
theorem dX1_remember_1 : decode cX1_remember 1 = .ok (.getfield 20, 3) := by decide +kernel
theorem dX1_remember_4 : decode cX1_remember 4 = .ok (.aload_n 0, 1) := by decide +kernel
theorem dX1_remember_5 : decode cX1_remember 5 = .ok (.getfield 15, 3) := by decide +kernel
theorem dX1_remember_8 : decode cX1_remember 8 = .ok (.aaload, 1) := by decide +kernel
theorem dX1_remember_9 : decode cX1_remember 9 = .ok (.ifnonnull 19, 3) := by decide +kernel
theorem dX1_remember_12 : decode cX1_remember 12 = .ok (.aload_n 0, 1) := by decide +kernel
theorem dX1_remember_13 : decode cX1_remember 13 = .ok (.getfield 20, 3) := by decide +kernel
theorem dX1_remember_16 : decode cX1_remember 16 = .ok (.aload_n 0, 1) := by decide +kernel
theorem dX1_remember_17 : decode cX1_remember 17 = .ok (.getfield 15, 3) := by decide +kernel
theorem dX1_remember_20 : decode cX1_remember 20 = .ok (.new 18, 3) := by decide +kernel
theorem dX1_remember_23 : decode cX1_remember 23 = .ok (.dup, 1) := by decide +kernel
theorem dX1_remember_24 : decode cX1_remember 24 = .ok (.invokespecial 24, 3) := by decide +kernel
theorem dX1_remember_27 : decode cX1_remember 27 = .ok (.aastore, 1) := by decide +kernel
theorem dX1_remember_28 : decode cX1_remember 28 = .ok (.aload_n 0, 1) := by decide +kernel
theorem dX1_remember_29 : decode cX1_remember 29 = .ok (.getfield 20, 3) := by decide +kernel
theorem dX1_remember_32 : decode cX1_remember 32 = .ok (.aload_n 0, 1) := by decide +kernel
theorem dX1_remember_33 : decode cX1_remember 33 = .ok (.getfield 15, 3) := by decide +kernel
theorem dX1_remember_36 : decode cX1_remember 36 = .ok (.aaload, 1) := by decide +kernel
theorem dX1_remember_37 : decode cX1_remember 37 = .ok (.aload_n 1, 1) := by decide +kernel
theorem dX1_remember_38 : decode cX1_remember 38 = .ok (.invokevirtual 25, 3) := by decide +kernel
theorem dX1_remember_41 : decode cX1_remember 41 = .ok (.aload_n 0, 1) := by decide +kernel
theorem dX1_remember_42 : decode cX1_remember 42 = .ok (.aload_n 0, 1) := by decide +kernel
theorem dX1_remember_43 : decode cX1_remember 43 = .ok (.getfield 15, 3) := by decide +kernel
theorem dX1_remember_46 : decode cX1_remember 46 = .ok (.iconst 1, 1) := by decide +kernel
theorem dX1_remember_47 : decode cX1_remember 47 = .ok (.iadd, 1) := by decide +kernel
theorem dX1_remember_48 : decode cX1_remember 48 = .ok (.bipush 20, 2) := by decide +kernel
theorem dX1_remember_50 : decode cX1_remember 50 = .ok (.if_icmp .ge 12, 3) := by decide +kernel
theorem dX1_remember_53 : decode cX1_remember 53 = .ok (.aload_n 0, 1) := by decide +kernel
theorem dX1_remember_54 : decode cX1_remember 54 = .ok (.getfield 15, 3) := by decide +kernel
theorem dX1_remember_57 : decode cX1_remember 57 = .ok (.iconst 1, 1) := by decide +kernel
theorem dX1_remember_58 : decode cX1_remember 58 = .ok (.iadd, 1) := by decide +kernel
theorem dX1_remember_59 : decode cX1_remember 59 = .ok (.goto 4, 3) := by decide +kernel
theorem dX1_remember_62 : decode cX1_remember 62 = .ok (.iconst 0, 1) := by decide +kernel
theorem dX1_remember_63 : decode cX1_remember 63 = .ok (.putfield 15, 3) := by decide +kernel
theorem dX1_remember_66 : decode cX1_remember 66 = .ok (.aload_n 0, 1) := by decide +kernel
theorem dX1_remember_67 : decode cX1_remember 67 = .ok (.aload_n 0, 1) := by decide +kernel
theorem dX1_remember_68 : decode cX1_remember 68 = .ok (.getfield 9, 3) := by decide +kernel
theorem dX1_remember_71 : decode cX1_remember 71 = .ok (.iconst 1, 1) := by decide +kernel
theorem dX1_remember_72 : decode cX1_remember 72 = .ok (.iadd, 1) := by decide +kernel
theorem dX1_remember_73 : decode cX1_remember 73 = .ok (.bipush 20, 2) := by decide +kernel
theorem dX1_remember_75 : decode cX1_remember 75 = .ok (.invokestatic 29, 3) := by decide +kernel
theorem dX1_remember_78 : decode cX1_remember 78 = .ok (.putfield 9, 3) := by decide +kernel
theorem dX1_remember_81 : decode cX1_remember 81 = .ok (.return_, 1) := by decide +kernel
theorem dX1_bringBack_0 : decode cX1_bringBack 0 = .ok (.aload_n 0, 1) := by decide +kernel
theorem dX1_bringBack_1 : decode cX1_bringBack 1 = .ok (.getfield 15, 3) := by decide +kernel
theorem dX1_bringBack_4 : decode cX1_bringBack 4 = .ok (.ifCond .le 12, 3) := by decide +kernel
theorem dX1_bringBack_7 : decode cX1_bringBack 7 = .ok (.aload_n 0, 1) := by decide +kernel
theorem dX1_bringBack_8 : decode cX1_bringBack 8 = .ok (.getfield 15, 3) := by decide +kernel
theorem dX1_bringBack_11 : decode cX1_bringBack 11 = .ok (.iconst 1, 1) := by decide +kernel
theorem dX1_bringBack_12 : decode cX1_bringBack 12 = .ok (.isub, 1) := by decide +kernel
theorem dX1_bringBack_13 : decode cX1_bringBack 13 = .ok (.goto 5, 3) := by decide +kernel
theorem dX1_bringBack_16 : decode cX1_bringBack 16 = .ok (.bipush 19, 2) := by decide +kernel
theorem dX1_bringBack_18 : decode cX1_bringBack 18 = .ok (.istore_n 2, 1) := by decide +kernel
theorem dX1_bringBack_19 : decode cX1_bringBack 19 = .ok (.aload_n 0, 1) := by decide +kernel
theorem dX1_bringBack_20 : decode cX1_bringBack 20 = .ok (.getfield 9, 3) := by decide +kernel
theorem dX1_bringBack_23 : decode cX1_bringBack 23 = .ok (.ifCond .eq 12, 3) := by decide +kernel
theorem dX1_bringBack_26 : decode cX1_bringBack 26 = .ok (.aload_n 0, 1) := by decide +kernel
theorem dX1_bringBack_27 : decode cX1_bringBack 27 = .ok (.getfield 20, 3) := by decide +kernel
theorem dX1_bringBack_30 : decode cX1_bringBack 30 = .ok (.iload_n 2, 1) := by decide +kernel
theorem dX1_bringBack_31 : decode cX1_bringBack 31 = .ok (.aaload, 1) := by decide +kernel
theorem dX1_bringBack_32 : decode cX1_bringBack 32 = .ok (.ifnonnull 4, 3) := by decide +kernel
theorem dX1_bringBack_35 : decode cX1_bringBack 35 = .ok (.return_, 1) := by decide +kernel
theorem dX1_bringBack_36 : decode cX1_bringBack 36 = .ok (.aload_n 1, 1) := by decide +kernel
theorem dX1_bringBack_37 : decode cX1_bringBack 37 = .ok (.aload_n 0, 1) := by decide +kernel
theorem dX1_bringBack_38 : decode cX1_bringBack 38 = .ok (.getfield 20, 3) := by decide +kernel
theorem dX1_bringBack_41 : decode cX1_bringBack 41 = .ok (.iload_n 2, 1) := by decide +kernel
theorem dX1_bringBack_42 : decode cX1_bringBack 42 = .ok (.aaload, 1) := by decide +kernel
theorem dX1_bringBack_43 : decode cX1_bringBack 43 = .ok (.invokevirtual 25, 3) := by decide +kernel
theorem dX1_bringBack_46 : decode cX1_bringBack 46 = .ok (.aload_n 0, 1) := by decide +kernel
theorem dX1_bringBack_47 : decode cX1_bringBack 47 = .ok (.iload_n 2, 1) := by decide +kernel
theorem dX1_bringBack_48 : decode cX1_bringBack 48 = .ok (.putfield 15, 3) := by decide +kernel
theorem dX1_bringBack_51 : decode cX1_bringBack 51 = .ok (.aload_n 0, 1) := by decide +kernel
theorem dX1_bringBack_52 : decode cX1_bringBack 52 = .ok (.dup, 1) := by decide +kernel
theorem dX1_bringBack_53 : decode cX1_bringBack 53 = .ok (.getfield 9, 3) := by decide +kernel
theorem dX1_bringBack_56 : decode cX1_bringBack 56 = .ok (.iconst 1, 1) := by decide +kernel
theorem dX1_bringBack_57 : decode cX1_bringBack 57 = .ok (.isub, 1) := by decide +kernel
theorem dX1_bringBack_58 : decode cX1_bringBack 58 = .ok (.putfield 9, 3) := by decide +kernel
theorem dX1_bringBack_61 : decode cX1_bringBack 61 = .ok (.return_, 1) := by decide +kernel
theorem dX2_init_0 : decode cX2_init 0 = .ok (.aload_n 0, 1) := by decide +kernel
theorem dX2_init_1 : decode cX2_init 1 = .ok (.invokespecial 3, 3) := by decide +kernel
theorem dX2_init_4 : decode cX2_init 4 = .ok (.aload_n 0, 1) := by decide +kernel
theorem dX2_init_5 : decode cX2_init 5 = .ok (.bipush 12, 2) := by decide +kernel
theorem dX2_init_7 : decode cX2_init 7 = .ok (.newarray .int, 2) := by decide +kernel
theorem dX2_init_9 : decode cX2_init 9 = .ok (.putfield 9, 3) := by decide +kernel
theorem dX2_init_12 : decode cX2_init 12 = .ok (.aload_n 0, 1) := by decide +kernel
theorem dX2_init_13 : decode cX2_init 13 = .ok (.sipush 128, 3) := by decide +kernel
theorem dX2_init_16 : decode cX2_init 16 = .ok (.newarray .long, 2) := by decide +kernel
theorem dX2_init_18 : decode cX2_init 18 = .ok (.putfield 15, 3) := by decide +kernel
theorem dX2_init_21 : decode cX2_init 21 = .ok (.return_, 1) := by decide +kernel
theorem dX2_shuffle_0 : decode cX2_shuffle 0 = .ok (.iconst 0, 1) := by decide +kernel
theorem dX2_shuffle_1 : decode cX2_shuffle 1 = .ok (.istore_n 3, 1) := by decide +kernel
theorem dX2_shuffle_2 : decode cX2_shuffle 2 = .ok (.iload_n 3, 1) := by decide +kernel
theorem dX2_shuffle_3 : decode cX2_shuffle 3 = .ok (.iload_n 2, 1) := by decide +kernel
theorem dX2_shuffle_4 : decode cX2_shuffle 4 = .ok (.if_icmp .ge 16, 3) := by decide +kernel
theorem dX2_shuffle_7 : decode cX2_shuffle 7 = .ok (.aload_n 0, 1) := by decide +kernel
theorem dX2_shuffle_8 : decode cX2_shuffle 8 = .ok (.getfield 9, 3) := by decide +kernel
theorem dX2_shuffle_11 : decode cX2_shuffle 11 = .ok (.iload_n 3, 1) := by decide +kernel
theorem dX2_shuffle_12 : decode cX2_shuffle 12 = .ok (.iload_n 3, 1) := by decide +kernel
theorem dX2_shuffle_13 : decode cX2_shuffle 13 = .ok (.iastore, 1) := by decide +kernel
theorem dX2_shuffle_14 : decode cX2_shuffle 14 = .ok (.iinc 3 1, 3) := by decide +kernel
theorem dX2_shuffle_17 : decode cX2_shuffle 17 = .ok (.goto (-15), 3) := by decide +kernel
theorem dX2_shuffle_20 : decode cX2_shuffle 20 = .ok (.iload_n 1, 1) := by decide +kernel
theorem dX2_shuffle_21 : decode cX2_shuffle 21 = .ok (.istore_n 3, 1) := by decide +kernel
theorem dX2_shuffle_22 : decode cX2_shuffle 22 = .ok (.iload_n 2, 1) := by decide +kernel
theorem dX2_shuffle_23 : decode cX2_shuffle 23 = .ok (.iconst 1, 1) := by decide +kernel
theorem dX2_shuffle_24 : decode cX2_shuffle 24 = .ok (.isub, 1) := by decide +kernel
theorem dX2_shuffle_25 : decode cX2_shuffle 25 = .ok (.istore 4, 2) := by decide +kernel
theorem dX2_shuffle_27 : decode cX2_shuffle 27 = .ok (.iload 4, 2) := by decide +kernel
theorem dX2_shuffle_29 : decode cX2_shuffle 29 = .ok (.iconst 1, 1) := by decide +kernel
theorem dX2_shuffle_30 : decode cX2_shuffle 30 = .ok (.if_icmp .lt 61, 3) := by decide +kernel
theorem dX2_shuffle_33 : decode cX2_shuffle 33 = .ok (.iload_n 3, 1) := by decide +kernel
theorem dX2_shuffle_34 : decode cX2_shuffle 34 = .ok (.ldc 19, 2) := by decide +kernel
theorem dX2_shuffle_36 : decode cX2_shuffle 36 = .ok (.imul, 1) := by decide +kernel
theorem dX2_shuffle_37 : decode cX2_shuffle 37 = .ok (.sipush 12345, 3) := by decide +kernel
theorem dX2_shuffle_40 : decode cX2_shuffle 40 = .ok (.iadd, 1) := by decide +kernel
theorem dX2_shuffle_41 : decode cX2_shuffle 41 = .ok (.istore_n 3, 1) := by decide +kernel
theorem dX2_shuffle_42 : decode cX2_shuffle 42 = .ok (.iload_n 3, 1) := by decide +kernel
theorem dX2_shuffle_43 : decode cX2_shuffle 43 = .ok (.bipush 16, 2) := by decide +kernel
theorem dX2_shuffle_45 : decode cX2_shuffle 45 = .ok (.iushr, 1) := by decide +kernel
theorem dX2_shuffle_46 : decode cX2_shuffle 46 = .ok (.iload 4, 2) := by decide +kernel
theorem dX2_shuffle_48 : decode cX2_shuffle 48 = .ok (.iconst 1, 1) := by decide +kernel
theorem dX2_shuffle_49 : decode cX2_shuffle 49 = .ok (.iadd, 1) := by decide +kernel
theorem dX2_shuffle_50 : decode cX2_shuffle 50 = .ok (.irem, 1) := by decide +kernel
theorem dX2_shuffle_51 : decode cX2_shuffle 51 = .ok (.istore 5, 2) := by decide +kernel
theorem dX2_shuffle_53 : decode cX2_shuffle 53 = .ok (.aload_n 0, 1) := by decide +kernel
theorem dX2_shuffle_54 : decode cX2_shuffle 54 = .ok (.getfield 9, 3) := by decide +kernel
theorem dX2_shuffle_57 : decode cX2_shuffle 57 = .ok (.iload 4, 2) := by decide +kernel
theorem dX2_shuffle_59 : decode cX2_shuffle 59 = .ok (.iaload, 1) := by decide +kernel
theorem dX2_shuffle_60 : decode cX2_shuffle 60 = .ok (.istore 6, 2) := by decide +kernel
theorem dX2_shuffle_62 : decode cX2_shuffle 62 = .ok (.aload_n 0, 1) := by decide +kernel
theorem dX2_shuffle_63 : decode cX2_shuffle 63 = .ok (.getfield 9, 3) := by decide +kernel
theorem dX2_shuffle_66 : decode cX2_shuffle 66 = .ok (.iload 4, 2) := by decide +kernel
theorem dX2_shuffle_68 : decode cX2_shuffle 68 = .ok (.aload_n 0, 1) := by decide +kernel
theorem dX2_shuffle_69 : decode cX2_shuffle 69 = .ok (.getfield 9, 3) := by decide +kernel
theorem dX2_shuffle_72 : decode cX2_shuffle 72 = .ok (.iload 5, 2) := by decide +kernel
theorem dX2_shuffle_74 : decode cX2_shuffle 74 = .ok (.iaload, 1) := by decide +kernel
theorem dX2_shuffle_75 : decode cX2_shuffle 75 = .ok (.iastore, 1) := by decide +kernel
theorem dX2_shuffle_76 : decode cX2_shuffle 76 = .ok (.aload_n 0, 1) := by decide +kernel
theorem dX2_shuffle_77 : decode cX2_shuffle 77 = .ok (.getfield 9, 3) := by decide +kernel
theorem dX2_shuffle_80 : decode cX2_shuffle 80 = .ok (.iload 5, 2) := by decide +kernel
theorem dX2_shuffle_82 : decode cX2_shuffle 82 = .ok (.iload 6, 2) := by decide +kernel
theorem dX2_shuffle_84 : decode cX2_shuffle 84 = .ok (.iastore, 1) := by decide +kernel
theorem dX2_shuffle_85 : decode cX2_shuffle 85 = .ok (.iinc 4 (-1), 3) := by decide +kernel
theorem dX2_shuffle_88 : decode cX2_shuffle 88 = .ok (.goto (-61), 3) := by decide +kernel
theorem dX2_shuffle_91 : decode cX2_shuffle 91 = .ok (.return_, 1) := by decide +kernel
theorem dX2_gather_0 : decode cX2_gather 0 = .ok (.aload_n 1, 1) := by decide +kernel
theorem dX2_gather_1 : decode cX2_gather 1 = .ok (.getfield 20, 3) := by decide +kernel
theorem dX2_gather_4 : decode cX2_gather 4 = .ok (.astore_n 2, 1) := by decide +kernel
theorem dX2_gather_5 : decode cX2_gather 5 = .ok (.iconst 1, 1) := by decide +kernel
theorem dX2_gather_6 : decode cX2_gather 6 = .ok (.aload_n 1, 1) := by decide +kernel
theorem dX2_gather_7 : decode cX2_gather 7 = .ok (.getfield 26, 3) := by decide +kernel
theorem dX2_gather_10 : decode cX2_gather 10 = .ok (.ishl, 1) := by decide +kernel
theorem dX2_gather_11 : decode cX2_gather 11 = .ok (.iconst 1, 1) := by decide +kernel
theorem dX2_gather_12 : decode cX2_gather 12 = .ok (.isub, 1) := by decide +kernel
theorem dX2_gather_13 : decode cX2_gather 13 = .ok (.istore_n 3, 1) := by decide +kernel
theorem dX2_gather_14 : decode cX2_gather 14 = .ok (.iconst 0, 1) := by decide +kernel
theorem dX2_gather_15 : decode cX2_gather 15 = .ok (.istore 4, 2) := by decide +kernel
theorem dX2_gather_17 : decode cX2_gather 17 = .ok (.iconst 0, 1) := by decide +kernel
theorem dX2_gather_18 : decode cX2_gather 18 = .ok (.istore 5, 2) := by decide +kernel
theorem dX2_gather_20 : decode cX2_gather 20 = .ok (.iload 5, 2) := by decide +kernel
theorem dX2_gather_22 : decode cX2_gather 22 = .ok (.aload_n 1, 1) := by decide +kernel
theorem dX2_gather_23 : decode cX2_gather 23 = .ok (.getfield 26, 3) := by decide +kernel
theorem dX2_gather_26 : decode cX2_gather 26 = .ok (.if_icmp .ge 87, 3) := by decide +kernel
theorem dX2_gather_29 : decode cX2_gather 29 = .ok (.iload_n 3, 1) := by decide +kernel
theorem dX2_gather_30 : decode cX2_gather 30 = .ok (.aload_n 0, 1) := by decide +kernel
theorem dX2_gather_31 : decode cX2_gather 31 = .ok (.getfield 9, 3) := by decide +kernel
theorem dX2_gather_34 : decode cX2_gather 34 = .ok (.iload 5, 2) := by decide +kernel
theorem dX2_gather_36 : decode cX2_gather 36 = .ok (.iaload, 1) := by decide +kernel
theorem dX2_gather_37 : decode cX2_gather 37 = .ok (.invokestatic 30, 3) := by decide +kernel
theorem dX2_gather_40 : decode cX2_gather 40 = .ok (.ifCond .ne 6, 3) := by decide +kernel
theorem dX2_gather_43 : decode cX2_gather 43 = .ok (.goto 64, 3) := by decide +kernel
theorem dX2_gather_46 : decode cX2_gather 46 = .ok (.aload_n 1, 1) := by decide +kernel
theorem dX2_gather_47 : decode cX2_gather 47 = .ok (.aload_n 0, 1) := by decide +kernel
theorem dX2_gather_48 : decode cX2_gather 48 = .ok (.getfield 9, 3) := by decide +kernel
theorem dX2_gather_51 : decode cX2_gather 51 = .ok (.iload 5, 2) := by decide +kernel
theorem dX2_gather_53 : decode cX2_gather 53 = .ok (.iaload, 1) := by decide +kernel
theorem dX2_gather_54 : decode cX2_gather 54 = .ok (.iload_n 3, 1) := by decide +kernel
theorem dX2_gather_55 : decode cX2_gather 55 = .ok (.invokestatic 36, 3) := by decide +kernel
theorem dX2_gather_58 : decode cX2_gather 58 = .ok (.istore 6, 2) := by decide +kernel
theorem dX2_gather_60 : decode cX2_gather 60 = .ok (.iconst 0, 1) := by decide +kernel
theorem dX2_gather_61 : decode cX2_gather 61 = .ok (.istore 7, 2) := by decide +kernel
theorem dX2_gather_63 : decode cX2_gather 63 = .ok (.iload 7, 2) := by decide +kernel
theorem dX2_gather_65 : decode cX2_gather 65 = .ok (.aload_n 1, 1) := by decide +kernel
theorem dX2_gather_66 : decode cX2_gather 66 = .ok (.getfield 26, 3) := by decide +kernel
theorem dX2_gather_69 : decode cX2_gather 69 = .ok (.if_icmp .ge 28, 3) := by decide +kernel
theorem dX2_gather_72 : decode cX2_gather 72 = .ok (.iload 6, 2) := by decide +kernel
theorem dX2_gather_74 : decode cX2_gather 74 = .ok (.iload 7, 2) := by decide +kernel
theorem dX2_gather_76 : decode cX2_gather 76 = .ok (.invokestatic 30, 3) := by decide +kernel
theorem dX2_gather_79 : decode cX2_gather 79 = .ok (.ifCond .eq 12, 3) := by decide +kernel
theorem dX2_gather_82 : decode cX2_gather 82 = .ok (.aload_n 2, 1) := by decide +kernel
theorem dX2_gather_83 : decode cX2_gather 83 = .ok (.getfield 40, 3) := by decide +kernel
theorem dX2_gather_86 : decode cX2_gather 86 = .ok (.iload 7, 2) := by decide +kernel
theorem dX2_gather_88 : decode cX2_gather 88 = .ok (.iload 4, 2) := by decide +kernel
theorem dX2_gather_90 : decode cX2_gather 90 = .ok (.iastore, 1) := by decide +kernel
theorem dX2_gather_91 : decode cX2_gather 91 = .ok (.iinc 7 1, 3) := by decide +kernel
theorem dX2_gather_94 : decode cX2_gather 94 = .ok (.goto (-31), 3) := by decide +kernel
theorem dX2_gather_97 : decode cX2_gather 97 = .ok (.iload_n 3, 1) := by decide +kernel
theorem dX2_gather_98 : decode cX2_gather 98 = .ok (.iload 6, 2) := by decide +kernel
theorem dX2_gather_100 : decode cX2_gather 100 = .ok (.iconst (-1), 1) := by decide +kernel
theorem dX2_gather_101 : decode cX2_gather 101 = .ok (.ixor, 1) := by decide +kernel
theorem dX2_gather_102 : decode cX2_gather 102 = .ok (.iand, 1) := by decide +kernel
theorem dX2_gather_103 : decode cX2_gather 103 = .ok (.istore_n 3, 1) := by decide +kernel
theorem dX2_gather_104 : decode cX2_gather 104 = .ok (.iinc 4 1, 3) := by decide +kernel
theorem dX2_gather_107 : decode cX2_gather 107 = .ok (.iinc 5 1, 3) := by decide +kernel
theorem dX2_gather_110 : decode cX2_gather 110 = .ok (.goto (-90), 3) := by decide +kernel
theorem dX2_gather_113 : decode cX2_gather 113 = .ok (.aload_n 2, 1) := by decide +kernel
theorem dX2_gather_114 : decode cX2_gather 114 = .ok (.invokevirtual 45, 3) := by decide +kernel
theorem dX2_gather_117 : decode cX2_gather 117 = .ok (.return_, 1) := by decide +kernel
theorem dX2_likedBy_0 : decode cX2_likedBy 0 = .ok (.iconst 1, 1) := by decide +kernel
theorem dX2_likedBy_1 : decode cX2_likedBy 1 = .ok (.iload_n 1, 1) := by decide +kernel
theorem dX2_likedBy_2 : decode cX2_likedBy 2 = .ok (.ishl, 1) := by decide +kernel
theorem dX2_likedBy_3 : decode cX2_likedBy 3 = .ok (.istore_n 3, 1) := by decide +kernel
theorem dX2_likedBy_4 : decode cX2_likedBy 4 = .ok (.iconst 0, 1) := by decide +kernel
theorem dX2_likedBy_5 : decode cX2_likedBy 5 = .ok (.istore 4, 2) := by decide +kernel
theorem dX2_likedBy_7 : decode cX2_likedBy 7 = .ok (.iload 4, 2) := by decide +kernel
theorem dX2_likedBy_9 : decode cX2_likedBy 9 = .ok (.aload_n 0, 1) := by decide +kernel
theorem dX2_likedBy_10 : decode cX2_likedBy 10 = .ok (.getfield 26, 3) := by decide +kernel
theorem dX2_likedBy_13 : decode cX2_likedBy 13 = .ok (.if_icmp .ge 35, 3) := by decide +kernel
theorem dX2_likedBy_16 : decode cX2_likedBy 16 = .ok (.iload_n 2, 1) := by decide +kernel
theorem dX2_likedBy_17 : decode cX2_likedBy 17 = .ok (.iload 4, 2) := by decide +kernel
theorem dX2_likedBy_19 : decode cX2_likedBy 19 = .ok (.invokestatic 30, 3) := by decide +kernel
theorem dX2_likedBy_22 : decode cX2_likedBy 22 = .ok (.ifCond .eq 20, 3) := by decide +kernel
theorem dX2_likedBy_25 : decode cX2_likedBy 25 = .ok (.aload_n 0, 1) := by decide +kernel
theorem dX2_likedBy_26 : decode cX2_likedBy 26 = .ok (.iload_n 1, 1) := by decide +kernel
theorem dX2_likedBy_27 : decode cX2_likedBy 27 = .ok (.iload 4, 2) := by decide +kernel
theorem dX2_likedBy_29 : decode cX2_likedBy 29 = .ok (.invokevirtual 48, 3) := by decide +kernel
theorem dX2_likedBy_32 : decode cX2_likedBy 32 = .ok (.ifCond .eq 10, 3) := by decide +kernel
theorem dX2_likedBy_35 : decode cX2_likedBy 35 = .ok (.iload_n 3, 1) := by decide +kernel
theorem dX2_likedBy_36 : decode cX2_likedBy 36 = .ok (.iconst 1, 1) := by decide +kernel
theorem dX2_likedBy_37 : decode cX2_likedBy 37 = .ok (.iload 4, 2) := by decide +kernel
theorem dX2_likedBy_39 : decode cX2_likedBy 39 = .ok (.ishl, 1) := by decide +kernel
theorem dX2_likedBy_40 : decode cX2_likedBy 40 = .ok (.ior, 1) := by decide +kernel
theorem dX2_likedBy_41 : decode cX2_likedBy 41 = .ok (.istore_n 3, 1) := by decide +kernel
theorem dX2_likedBy_42 : decode cX2_likedBy 42 = .ok (.iinc 4 1, 3) := by decide +kernel
theorem dX2_likedBy_45 : decode cX2_likedBy 45 = .ok (.goto (-38), 3) := by decide +kernel
theorem dX2_likedBy_48 : decode cX2_likedBy 48 = .ok (.iload_n 3, 1) := by decide +kernel
theorem dX2_likedBy_49 : decode cX2_likedBy 49 = .ok (.ireturn, 1) := by decide +kernel
theorem dX2_sumOverOrders_0 : decode cX2_sumOverOrders 0 = .ok (.iconst 1, 1) := by decide +kernel
theorem dX2_sumOverOrders_1 : decode cX2_sumOverOrders 1 = .ok (.aload_n 1, 1) := by decide +kernel
theorem dX2_sumOverOrders_2 : decode cX2_sumOverOrders 2 = .ok (.getfield 26, 3) := by decide +kernel
theorem dX2_sumOverOrders_5 : decode cX2_sumOverOrders 5 = .ok (.ishl, 1) := by decide +kernel
theorem dX2_sumOverOrders_6 : decode cX2_sumOverOrders 6 = .ok (.aload_n 0, 1) := by decide +kernel
theorem dX2_sumOverOrders_7 : decode cX2_sumOverOrders 7 = .ok (.getfield 15, 3) := by decide +kernel
theorem dX2_sumOverOrders_10 : decode cX2_sumOverOrders 10 = .ok (.arraylength, 1) := by decide +kernel
theorem dX2_sumOverOrders_11 : decode cX2_sumOverOrders 11 = .ok (.invokestatic 51, 3) := by decide +kernel
theorem dX2_sumOverOrders_14 : decode cX2_sumOverOrders 14 = .ok (.istore_n 2, 1) := by decide +kernel
theorem dX2_sumOverOrders_15 : decode cX2_sumOverOrders 15 = .ok (.aload_n 0, 1) := by decide +kernel
theorem dX2_sumOverOrders_16 : decode cX2_sumOverOrders 16 = .ok (.getfield 15, 3) := by decide +kernel
theorem dX2_sumOverOrders_19 : decode cX2_sumOverOrders 19 = .ok (.iconst 0, 1) := by decide +kernel
theorem dX2_sumOverOrders_20 : decode cX2_sumOverOrders 20 = .ok (.lconst 0, 1) := by decide +kernel
theorem dX2_sumOverOrders_21 : decode cX2_sumOverOrders 21 = .ok (.lastore, 1) := by decide +kernel
theorem dX2_sumOverOrders_22 : decode cX2_sumOverOrders 22 = .ok (.iconst 1, 1) := by decide +kernel
theorem dX2_sumOverOrders_23 : decode cX2_sumOverOrders 23 = .ok (.istore_n 3, 1) := by decide +kernel
theorem dX2_sumOverOrders_24 : decode cX2_sumOverOrders 24 = .ok (.iload_n 3, 1) := by decide +kernel
theorem dX2_sumOverOrders_25 : decode cX2_sumOverOrders 25 = .ok (.iload_n 2, 1) := by decide +kernel
theorem dX2_sumOverOrders_26 : decode cX2_sumOverOrders 26 = .ok (.if_icmp .ge 21, 3) := by decide +kernel
theorem dX2_sumOverOrders_29 : decode cX2_sumOverOrders 29 = .ok (.aload_n 0, 1) := by decide +kernel
theorem dX2_sumOverOrders_30 : decode cX2_sumOverOrders 30 = .ok (.getfield 15, 3) := by decide +kernel
theorem dX2_sumOverOrders_33 : decode cX2_sumOverOrders 33 = .ok (.iload_n 3, 1) := by decide +kernel
theorem dX2_sumOverOrders_34 : decode cX2_sumOverOrders 34 = .ok (.aload_n 0, 1) := by decide +kernel
theorem dX2_sumOverOrders_35 : decode cX2_sumOverOrders 35 = .ok (.aload_n 1, 1) := by decide +kernel
theorem dX2_sumOverOrders_36 : decode cX2_sumOverOrders 36 = .ok (.iload_n 3, 1) := by decide +kernel
theorem dX2_sumOverOrders_37 : decode cX2_sumOverOrders 37 = .ok (.invokevirtual 57, 3) := by decide +kernel
theorem dX2_sumOverOrders_40 : decode cX2_sumOverOrders 40 = .ok (.lastore, 1) := by decide +kernel
theorem dX2_sumOverOrders_41 : decode cX2_sumOverOrders 41 = .ok (.iinc 3 1, 3) := by decide +kernel
theorem dX2_sumOverOrders_44 : decode cX2_sumOverOrders 44 = .ok (.goto (-20), 3) := by decide +kernel
theorem dX2_sumOverOrders_47 : decode cX2_sumOverOrders 47 = .ok (.aload_n 0, 1) := by decide +kernel
theorem dX2_sumOverOrders_48 : decode cX2_sumOverOrders 48 = .ok (.getfield 15, 3) := by decide +kernel
theorem dX2_sumOverOrders_51 : decode cX2_sumOverOrders 51 = .ok (.iload_n 2, 1) := by decide +kernel
theorem dX2_sumOverOrders_52 : decode cX2_sumOverOrders 52 = .ok (.iconst 1, 1) := by decide +kernel
theorem dX2_sumOverOrders_53 : decode cX2_sumOverOrders 53 = .ok (.isub, 1) := by decide +kernel
theorem dX2_sumOverOrders_54 : decode cX2_sumOverOrders 54 = .ok (.laload, 1) := by decide +kernel
theorem dX2_sumOverOrders_55 : decode cX2_sumOverOrders 55 = .ok (.lreturn, 1) := by decide +kernel
theorem dX2_sumOver_0 : decode cX2_sumOver 0 = .ok (.getstatic 61, 3) := by decide +kernel
theorem dX2_sumOver_3 : decode cX2_sumOver 3 = .ok (.iload_n 2, 1) := by decide +kernel
theorem dX2_sumOver_4 : decode cX2_sumOver 4 = .ok (.invokestatic 64, 3) := by decide +kernel
theorem dX2_sumOver_7 : decode cX2_sumOver 7 = .ok (.iconst 1, 1) := by decide +kernel
theorem dX2_sumOver_8 : decode cX2_sumOver 8 = .ok (.isub, 1) := by decide +kernel
theorem dX2_sumOver_9 : decode cX2_sumOver 9 = .ok (.iaload, 1) := by decide +kernel
theorem dX2_sumOver_10 : decode cX2_sumOver 10 = .ok (.istore_n 3, 1) := by decide +kernel
theorem dX2_sumOver_11 : decode cX2_sumOver 11 = .ok (.lconst 0, 1) := by decide +kernel
theorem dX2_sumOver_12 : decode cX2_sumOver 12 = .ok (.lstore 4, 2) := by decide +kernel
theorem dX2_sumOver_14 : decode cX2_sumOver 14 = .ok (.iconst 0, 1) := by decide +kernel
theorem dX2_sumOver_15 : decode cX2_sumOver 15 = .ok (.istore 6, 2) := by decide +kernel
theorem dX2_sumOver_17 : decode cX2_sumOver 17 = .ok (.iload 6, 2) := by decide +kernel
theorem dX2_sumOver_19 : decode cX2_sumOver 19 = .ok (.aload_n 1, 1) := by decide +kernel
theorem dX2_sumOver_20 : decode cX2_sumOver 20 = .ok (.getfield 26, 3) := by decide +kernel
theorem dX2_sumOver_23 : decode cX2_sumOver 23 = .ok (.if_icmp .ge 76, 3) := by decide +kernel
theorem dX2_sumOver_26 : decode cX2_sumOver 26 = .ok (.iload_n 2, 1) := by decide +kernel
theorem dX2_sumOver_27 : decode cX2_sumOver 27 = .ok (.iload 6, 2) := by decide +kernel
theorem dX2_sumOver_29 : decode cX2_sumOver 29 = .ok (.invokestatic 30, 3) := by decide +kernel
theorem dX2_sumOver_32 : decode cX2_sumOver 32 = .ok (.ifCond .eq 61, 3) := by decide +kernel
theorem dX2_sumOver_35 : decode cX2_sumOver 35 = .ok (.aload_n 1, 1) := by decide +kernel
theorem dX2_sumOver_36 : decode cX2_sumOver 36 = .ok (.iload 6, 2) := by decide +kernel
theorem dX2_sumOver_38 : decode cX2_sumOver 38 = .ok (.iload_n 2, 1) := by decide +kernel
theorem dX2_sumOver_39 : decode cX2_sumOver 39 = .ok (.invokestatic 36, 3) := by decide +kernel
theorem dX2_sumOver_42 : decode cX2_sumOver 42 = .ok (.istore 7, 2) := by decide +kernel
theorem dX2_sumOver_44 : decode cX2_sumOver 44 = .ok (.iload_n 2, 1) := by decide +kernel
theorem dX2_sumOver_45 : decode cX2_sumOver 45 = .ok (.iload 7, 2) := by decide +kernel
theorem dX2_sumOver_47 : decode cX2_sumOver 47 = .ok (.iconst (-1), 1) := by decide +kernel
theorem dX2_sumOver_48 : decode cX2_sumOver 48 = .ok (.ixor, 1) := by decide +kernel
theorem dX2_sumOver_49 : decode cX2_sumOver 49 = .ok (.iand, 1) := by decide +kernel
theorem dX2_sumOver_50 : decode cX2_sumOver 50 = .ok (.istore 8, 2) := by decide +kernel
theorem dX2_sumOver_52 : decode cX2_sumOver 52 = .ok (.iload_n 3, 1) := by decide +kernel
theorem dX2_sumOver_53 : decode cX2_sumOver 53 = .ok (.getstatic 61, 3) := by decide +kernel
theorem dX2_sumOver_56 : decode cX2_sumOver 56 = .ok (.iload 8, 2) := by decide +kernel
theorem dX2_sumOver_58 : decode cX2_sumOver 58 = .ok (.invokestatic 64, 3) := by decide +kernel
theorem dX2_sumOver_61 : decode cX2_sumOver 61 = .ok (.iaload, 1) := by decide +kernel
theorem dX2_sumOver_62 : decode cX2_sumOver 62 = .ok (.idiv, 1) := by decide +kernel
theorem dX2_sumOver_63 : decode cX2_sumOver 63 = .ok (.istore 9, 2) := by decide +kernel
theorem dX2_sumOver_65 : decode cX2_sumOver 65 = .ok (.lload 4, 2) := by decide +kernel
theorem dX2_sumOver_67 : decode cX2_sumOver 67 = .ok (.iload_n 3, 1) := by decide +kernel
theorem dX2_sumOver_68 : decode cX2_sumOver 68 = .ok (.i2l, 1) := by decide +kernel
theorem dX2_sumOver_69 : decode cX2_sumOver 69 = .ok (.aload_n 1, 1) := by decide +kernel
theorem dX2_sumOver_70 : decode cX2_sumOver 70 = .ok (.iload 7, 2) := by decide +kernel
theorem dX2_sumOver_72 : decode cX2_sumOver 72 = .ok (.iload 8, 2) := by decide +kernel
theorem dX2_sumOver_74 : decode cX2_sumOver 74 = .ok (.invokestatic 70, 3) := by decide +kernel
theorem dX2_sumOver_77 : decode cX2_sumOver 77 = .ok (.lmul, 1) := by decide +kernel
theorem dX2_sumOver_78 : decode cX2_sumOver 78 = .ok (.iload 9, 2) := by decide +kernel
theorem dX2_sumOver_80 : decode cX2_sumOver 80 = .ok (.i2l, 1) := by decide +kernel
theorem dX2_sumOver_81 : decode cX2_sumOver 81 = .ok (.aload_n 0, 1) := by decide +kernel
theorem dX2_sumOver_82 : decode cX2_sumOver 82 = .ok (.getfield 15, 3) := by decide +kernel
theorem dX2_sumOver_85 : decode cX2_sumOver 85 = .ok (.iload 8, 2) := by decide +kernel
theorem dX2_sumOver_87 : decode cX2_sumOver 87 = .ok (.laload, 1) := by decide +kernel
theorem dX2_sumOver_88 : decode cX2_sumOver 88 = .ok (.lmul, 1) := by decide +kernel
theorem dX2_sumOver_89 : decode cX2_sumOver 89 = .ok (.ladd, 1) := by decide +kernel
theorem dX2_sumOver_90 : decode cX2_sumOver 90 = .ok (.ladd, 1) := by decide +kernel
theorem dX2_sumOver_91 : decode cX2_sumOver 91 = .ok (.lstore 4, 2) := by decide +kernel
theorem dX2_sumOver_93 : decode cX2_sumOver 93 = .ok (.iinc 6 1, 3) := by decide +kernel
theorem dX2_sumOver_96 : decode cX2_sumOver 96 = .ok (.goto (-79), 3) := by decide +kernel
theorem dX2_sumOver_99 : decode cX2_sumOver 99 = .ok (.lload 4, 2) := by decide +kernel
theorem dX2_sumOver_101 : decode cX2_sumOver 101 = .ok (.lreturn, 1) := by decide +kernel
theorem dX2_costOfTaking_0 : decode cX2_costOfTaking 0 = .ok (.lconst 0, 1) := by decide +kernel
theorem dX2_costOfTaking_1 : decode cX2_costOfTaking 1 = .ok (.lstore_n 3, 1) := by decide +kernel
theorem dX2_costOfTaking_2 : decode cX2_costOfTaking 2 = .ok (.iconst 0, 1) := by decide +kernel
theorem dX2_costOfTaking_3 : decode cX2_costOfTaking 3 = .ok (.istore 5, 2) := by decide +kernel
theorem dX2_costOfTaking_5 : decode cX2_costOfTaking 5 = .ok (.iload 5, 2) := by decide +kernel
theorem dX2_costOfTaking_7 : decode cX2_costOfTaking 7 = .ok (.aload_n 0, 1) := by decide +kernel
theorem dX2_costOfTaking_8 : decode cX2_costOfTaking 8 = .ok (.getfield 26, 3) := by decide +kernel
theorem dX2_costOfTaking_11 : decode cX2_costOfTaking 11 = .ok (.if_icmp .ge 124, 3) := by decide +kernel
theorem dX2_costOfTaking_14 : decode cX2_costOfTaking 14 = .ok (.iconst 0, 1) := by decide +kernel
theorem dX2_costOfTaking_15 : decode cX2_costOfTaking 15 = .ok (.istore 6, 2) := by decide +kernel
theorem dX2_costOfTaking_17 : decode cX2_costOfTaking 17 = .ok (.iload 6, 2) := by decide +kernel
theorem dX2_costOfTaking_19 : decode cX2_costOfTaking 19 = .ok (.aload_n 0, 1) := by decide +kernel
theorem dX2_costOfTaking_20 : decode cX2_costOfTaking 20 = .ok (.getfield 26, 3) := by decide +kernel
theorem dX2_costOfTaking_23 : decode cX2_costOfTaking 23 = .ok (.if_icmp .ge 106, 3) := by decide +kernel
theorem dX2_costOfTaking_26 : decode cX2_costOfTaking 26 = .ok (.iload_n 1, 1) := by decide +kernel
theorem dX2_costOfTaking_27 : decode cX2_costOfTaking 27 = .ok (.iload 5, 2) := by decide +kernel
theorem dX2_costOfTaking_29 : decode cX2_costOfTaking 29 = .ok (.invokestatic 30, 3) := by decide +kernel
theorem dX2_costOfTaking_32 : decode cX2_costOfTaking 32 = .ok (.ifCond .eq 97, 3) := by decide +kernel
theorem dX2_costOfTaking_35 : decode cX2_costOfTaking 35 = .ok (.iload 6, 2) := by decide +kernel
theorem dX2_costOfTaking_37 : decode cX2_costOfTaking 37 = .ok (.iload 5, 2) := by decide +kernel
theorem dX2_costOfTaking_39 : decode cX2_costOfTaking 39 = .ok (.if_icmp .ge 27, 3) := by decide +kernel
theorem dX2_costOfTaking_42 : decode cX2_costOfTaking 42 = .ok (.iload_n 1, 1) := by decide +kernel
theorem dX2_costOfTaking_43 : decode cX2_costOfTaking 43 = .ok (.iload 6, 2) := by decide +kernel
theorem dX2_costOfTaking_45 : decode cX2_costOfTaking 45 = .ok (.invokestatic 30, 3) := by decide +kernel
theorem dX2_costOfTaking_48 : decode cX2_costOfTaking 48 = .ok (.ifCond .eq 18, 3) := by decide +kernel
theorem dX2_costOfTaking_51 : decode cX2_costOfTaking 51 = .ok (.aload_n 0, 1) := by decide +kernel
theorem dX2_costOfTaking_52 : decode cX2_costOfTaking 52 = .ok (.iload 5, 2) := by decide +kernel
theorem dX2_costOfTaking_54 : decode cX2_costOfTaking 54 = .ok (.iload 6, 2) := by decide +kernel
theorem dX2_costOfTaking_56 : decode cX2_costOfTaking 56 = .ok (.invokevirtual 74, 3) := by decide +kernel
theorem dX2_costOfTaking_59 : decode cX2_costOfTaking 59 = .ok (.ifCond .ne 7, 3) := by decide +kernel
theorem dX2_costOfTaking_62 : decode cX2_costOfTaking 62 = .ok (.iconst 1, 1) := by decide +kernel
theorem dX2_costOfTaking_63 : decode cX2_costOfTaking 63 = .ok (.goto 4, 3) := by decide +kernel
theorem dX2_costOfTaking_66 : decode cX2_costOfTaking 66 = .ok (.iconst 0, 1) := by decide +kernel
theorem dX2_costOfTaking_67 : decode cX2_costOfTaking 67 = .ok (.istore 7, 2) := by decide +kernel
theorem dX2_costOfTaking_69 : decode cX2_costOfTaking 69 = .ok (.iload_n 2, 1) := by decide +kernel
theorem dX2_costOfTaking_70 : decode cX2_costOfTaking 70 = .ok (.iload 6, 2) := by decide +kernel
theorem dX2_costOfTaking_72 : decode cX2_costOfTaking 72 = .ok (.invokestatic 30, 3) := by decide +kernel
theorem dX2_costOfTaking_75 : decode cX2_costOfTaking 75 = .ok (.ifCond .eq 19, 3) := by decide +kernel
theorem dX2_costOfTaking_78 : decode cX2_costOfTaking 78 = .ok (.aload_n 0, 1) := by decide +kernel
theorem dX2_costOfTaking_79 : decode cX2_costOfTaking 79 = .ok (.iload 5, 2) := by decide +kernel
theorem dX2_costOfTaking_81 : decode cX2_costOfTaking 81 = .ok (.iload 6, 2) := by decide +kernel
theorem dX2_costOfTaking_83 : decode cX2_costOfTaking 83 = .ok (.invokevirtual 74, 3) := by decide +kernel
theorem dX2_costOfTaking_86 : decode cX2_costOfTaking 86 = .ok (.iconst 1, 1) := by decide +kernel
theorem dX2_costOfTaking_87 : decode cX2_costOfTaking 87 = .ok (.if_icmp .ne 7, 3) := by decide +kernel
theorem dX2_costOfTaking_90 : decode cX2_costOfTaking 90 = .ok (.iconst 1, 1) := by decide +kernel
theorem dX2_costOfTaking_91 : decode cX2_costOfTaking 91 = .ok (.goto 4, 3) := by decide +kernel
theorem dX2_costOfTaking_94 : decode cX2_costOfTaking 94 = .ok (.iconst 0, 1) := by decide +kernel
theorem dX2_costOfTaking_95 : decode cX2_costOfTaking 95 = .ok (.istore 8, 2) := by decide +kernel
theorem dX2_costOfTaking_97 : decode cX2_costOfTaking 97 = .ok (.lload_n 3, 1) := by decide +kernel
theorem dX2_costOfTaking_98 : decode cX2_costOfTaking 98 = .ok (.iload 7, 2) := by decide +kernel
theorem dX2_costOfTaking_100 : decode cX2_costOfTaking 100 = .ok (.ifCond .ne 8, 3) := by decide +kernel
theorem dX2_costOfTaking_103 : decode cX2_costOfTaking 103 = .ok (.iload 8, 2) := by decide +kernel
theorem dX2_costOfTaking_105 : decode cX2_costOfTaking 105 = .ok (.ifCond .eq 15, 3) := by decide +kernel
theorem dX2_costOfTaking_108 : decode cX2_costOfTaking 108 = .ok (.aload_n 0, 1) := by decide +kernel
theorem dX2_costOfTaking_109 : decode cX2_costOfTaking 109 = .ok (.iload 5, 2) := by decide +kernel
theorem dX2_costOfTaking_111 : decode cX2_costOfTaking 111 = .ok (.iload 6, 2) := by decide +kernel
theorem dX2_costOfTaking_113 : decode cX2_costOfTaking 113 = .ok (.invokevirtual 77, 3) := by decide +kernel
theorem dX2_costOfTaking_116 : decode cX2_costOfTaking 116 = .ok (.i2l, 1) := by decide +kernel
theorem dX2_costOfTaking_117 : decode cX2_costOfTaking 117 = .ok (.goto 4, 3) := by decide +kernel
theorem dX2_costOfTaking_120 : decode cX2_costOfTaking 120 = .ok (.lconst 0, 1) := by decide +kernel
theorem dX2_costOfTaking_121 : decode cX2_costOfTaking 121 = .ok (.ladd, 1) := by decide +kernel
theorem dX2_costOfTaking_122 : decode cX2_costOfTaking 122 = .ok (.lstore_n 3, 1) := by decide +kernel
theorem dX2_costOfTaking_123 : decode cX2_costOfTaking 123 = .ok (.iinc 6 1, 3) := by decide +kernel
theorem dX2_costOfTaking_126 : decode cX2_costOfTaking 126 = .ok (.goto (-109), 3) := by decide +kernel
theorem dX2_costOfTaking_129 : decode cX2_costOfTaking 129 = .ok (.iinc 5 1, 3) := by decide +kernel
theorem dX2_costOfTaking_132 : decode cX2_costOfTaking 132 = .ok (.goto (-127), 3) := by decide +kernel
theorem dX2_costOfTaking_135 : decode cX2_costOfTaking 135 = .ok (.lload_n 3, 1) := by decide +kernel
theorem dX2_costOfTaking_136 : decode cX2_costOfTaking 136 = .ok (.lreturn, 1) := by decide +kernel
theorem dX2_brokenRounds_0 : decode cX2_brokenRounds 0 = .ok (.iconst 0, 1) := by decide +kernel
theorem dX2_brokenRounds_1 : decode cX2_brokenRounds 1 = .ok (.istore_n 1, 1) := by decide +kernel
theorem dX2_brokenRounds_2 : decode cX2_brokenRounds 2 = .ok (.iconst 2, 1) := by decide +kernel
theorem dX2_brokenRounds_3 : decode cX2_brokenRounds 3 = .ok (.istore_n 2, 1) := by decide +kernel
theorem dX2_brokenRounds_4 : decode cX2_brokenRounds 4 = .ok (.iload_n 2, 1) := by decide +kernel
theorem dX2_brokenRounds_5 : decode cX2_brokenRounds 5 = .ok (.aload_n 0, 1) := by decide +kernel
theorem dX2_brokenRounds_6 : decode cX2_brokenRounds 6 = .ok (.getfield 26, 3) := by decide +kernel
theorem dX2_brokenRounds_9 : decode cX2_brokenRounds 9 = .ok (.if_icmp .ge 56, 3) := by decide +kernel
theorem dX2_brokenRounds_12 : decode cX2_brokenRounds 12 = .ok (.iconst 1, 1) := by decide +kernel
theorem dX2_brokenRounds_13 : decode cX2_brokenRounds 13 = .ok (.istore_n 3, 1) := by decide +kernel
theorem dX2_brokenRounds_14 : decode cX2_brokenRounds 14 = .ok (.iload_n 3, 1) := by decide +kernel
theorem dX2_brokenRounds_15 : decode cX2_brokenRounds 15 = .ok (.iload_n 2, 1) := by decide +kernel
theorem dX2_brokenRounds_16 : decode cX2_brokenRounds 16 = .ok (.if_icmp .ge 43, 3) := by decide +kernel
theorem dX2_brokenRounds_19 : decode cX2_brokenRounds 19 = .ok (.iconst 0, 1) := by decide +kernel
theorem dX2_brokenRounds_20 : decode cX2_brokenRounds 20 = .ok (.istore 4, 2) := by decide +kernel
theorem dX2_brokenRounds_22 : decode cX2_brokenRounds 22 = .ok (.iload 4, 2) := by decide +kernel
theorem dX2_brokenRounds_24 : decode cX2_brokenRounds 24 = .ok (.iload_n 3, 1) := by decide +kernel
theorem dX2_brokenRounds_25 : decode cX2_brokenRounds 25 = .ok (.if_icmp .ge 28, 3) := by decide +kernel
theorem dX2_brokenRounds_28 : decode cX2_brokenRounds 28 = .ok (.iload_n 1, 1) := by decide +kernel
theorem dX2_brokenRounds_29 : decode cX2_brokenRounds 29 = .ok (.aload_n 0, 1) := by decide +kernel
theorem dX2_brokenRounds_30 : decode cX2_brokenRounds 30 = .ok (.iload_n 2, 1) := by decide +kernel
theorem dX2_brokenRounds_31 : decode cX2_brokenRounds 31 = .ok (.iload_n 3, 1) := by decide +kernel
theorem dX2_brokenRounds_32 : decode cX2_brokenRounds 32 = .ok (.iload 4, 2) := by decide +kernel
theorem dX2_brokenRounds_34 : decode cX2_brokenRounds 34 = .ok (.invokestatic 80, 3) := by decide +kernel
theorem dX2_brokenRounds_37 : decode cX2_brokenRounds 37 = .ok (.ifCond .eq 7, 3) := by decide +kernel
theorem dX2_brokenRounds_40 : decode cX2_brokenRounds 40 = .ok (.iconst 1, 1) := by decide +kernel
theorem dX2_brokenRounds_41 : decode cX2_brokenRounds 41 = .ok (.goto 4, 3) := by decide +kernel
theorem dX2_brokenRounds_44 : decode cX2_brokenRounds 44 = .ok (.iconst 0, 1) := by decide +kernel
theorem dX2_brokenRounds_45 : decode cX2_brokenRounds 45 = .ok (.iadd, 1) := by decide +kernel
theorem dX2_brokenRounds_46 : decode cX2_brokenRounds 46 = .ok (.istore_n 1, 1) := by decide +kernel
theorem dX2_brokenRounds_47 : decode cX2_brokenRounds 47 = .ok (.iinc 4 1, 3) := by decide +kernel
theorem dX2_brokenRounds_50 : decode cX2_brokenRounds 50 = .ok (.goto (-28), 3) := by decide +kernel
theorem dX2_brokenRounds_53 : decode cX2_brokenRounds 53 = .ok (.iinc 3 1, 3) := by decide +kernel
theorem dX2_brokenRounds_56 : decode cX2_brokenRounds 56 = .ok (.goto (-42), 3) := by decide +kernel
theorem dX2_brokenRounds_59 : decode cX2_brokenRounds 59 = .ok (.iinc 2 1, 3) := by decide +kernel
theorem dX2_brokenRounds_62 : decode cX2_brokenRounds 62 = .ok (.goto (-58), 3) := by decide +kernel
theorem dX2_brokenRounds_65 : decode cX2_brokenRounds 65 = .ok (.iload_n 1, 1) := by decide +kernel
theorem dX2_brokenRounds_66 : decode cX2_brokenRounds 66 = .ok (.ireturn, 1) := by decide +kernel
theorem dX2_isBroken_0 : decode cX2_isBroken 0 = .ok (.aload_n 0, 1) := by decide +kernel
theorem dX2_isBroken_1 : decode cX2_isBroken 1 = .ok (.iload_n 1, 1) := by decide +kernel
theorem dX2_isBroken_2 : decode cX2_isBroken 2 = .ok (.iload_n 2, 1) := by decide +kernel
theorem dX2_isBroken_3 : decode cX2_isBroken 3 = .ok (.invokevirtual 77, 3) := by decide +kernel
theorem dX2_isBroken_6 : decode cX2_isBroken 6 = .ok (.ifCond .le 25, 3) := by decide +kernel
theorem dX2_isBroken_9 : decode cX2_isBroken 9 = .ok (.aload_n 0, 1) := by decide +kernel
theorem dX2_isBroken_10 : decode cX2_isBroken 10 = .ok (.iload_n 1, 1) := by decide +kernel
theorem dX2_isBroken_11 : decode cX2_isBroken 11 = .ok (.iload_n 3, 1) := by decide +kernel
theorem dX2_isBroken_12 : decode cX2_isBroken 12 = .ok (.invokevirtual 77, 3) := by decide +kernel
theorem dX2_isBroken_15 : decode cX2_isBroken 15 = .ok (.ifCond .le 16, 3) := by decide +kernel
theorem dX2_isBroken_18 : decode cX2_isBroken 18 = .ok (.aload_n 0, 1) := by decide +kernel
theorem dX2_isBroken_19 : decode cX2_isBroken 19 = .ok (.iload_n 2, 1) := by decide +kernel
theorem dX2_isBroken_20 : decode cX2_isBroken 20 = .ok (.iload_n 3, 1) := by decide +kernel
theorem dX2_isBroken_21 : decode cX2_isBroken 21 = .ok (.invokevirtual 77, 3) := by decide +kernel
theorem dX2_isBroken_24 : decode cX2_isBroken 24 = .ok (.ifCond .le 7, 3) := by decide +kernel
theorem dX2_isBroken_27 : decode cX2_isBroken 27 = .ok (.iconst 1, 1) := by decide +kernel
theorem dX2_isBroken_28 : decode cX2_isBroken 28 = .ok (.goto 4, 3) := by decide +kernel
theorem dX2_isBroken_31 : decode cX2_isBroken 31 = .ok (.iconst 0, 1) := by decide +kernel
theorem dX2_isBroken_32 : decode cX2_isBroken 32 = .ok (.istore 4, 2) := by decide +kernel
theorem dX2_isBroken_34 : decode cX2_isBroken 34 = .ok (.iload 4, 2) := by decide +kernel
theorem dX2_isBroken_36 : decode cX2_isBroken 36 = .ok (.ifCond .eq 31, 3) := by decide +kernel
theorem dX2_isBroken_39 : decode cX2_isBroken 39 = .ok (.aload_n 0, 1) := by decide +kernel
theorem dX2_isBroken_40 : decode cX2_isBroken 40 = .ok (.iload_n 1, 1) := by decide +kernel
theorem dX2_isBroken_41 : decode cX2_isBroken 41 = .ok (.iload_n 2, 1) := by decide +kernel
theorem dX2_isBroken_42 : decode cX2_isBroken 42 = .ok (.invokevirtual 74, 3) := by decide +kernel
theorem dX2_isBroken_45 : decode cX2_isBroken 45 = .ok (.aload_n 0, 1) := by decide +kernel
theorem dX2_isBroken_46 : decode cX2_isBroken 46 = .ok (.iload_n 1, 1) := by decide +kernel
theorem dX2_isBroken_47 : decode cX2_isBroken 47 = .ok (.iload_n 3, 1) := by decide +kernel
theorem dX2_isBroken_48 : decode cX2_isBroken 48 = .ok (.invokevirtual 74, 3) := by decide +kernel
theorem dX2_isBroken_51 : decode cX2_isBroken 51 = .ok (.iadd, 1) := by decide +kernel
theorem dX2_isBroken_52 : decode cX2_isBroken 52 = .ok (.aload_n 0, 1) := by decide +kernel
theorem dX2_isBroken_53 : decode cX2_isBroken 53 = .ok (.iload_n 2, 1) := by decide +kernel
theorem dX2_isBroken_54 : decode cX2_isBroken 54 = .ok (.iload_n 3, 1) := by decide +kernel
theorem dX2_isBroken_55 : decode cX2_isBroken 55 = .ok (.invokevirtual 74, 3) := by decide +kernel
theorem dX2_isBroken_58 : decode cX2_isBroken 58 = .ok (.iadd, 1) := by decide +kernel
theorem dX2_isBroken_59 : decode cX2_isBroken 59 = .ok (.iconst 2, 1) := by decide +kernel
theorem dX2_isBroken_60 : decode cX2_isBroken 60 = .ok (.if_icmp .ne 7, 3) := by decide +kernel
theorem dX2_isBroken_63 : decode cX2_isBroken 63 = .ok (.iconst 1, 1) := by decide +kernel
theorem dX2_isBroken_64 : decode cX2_isBroken 64 = .ok (.goto 4, 3) := by decide +kernel
theorem dX2_isBroken_67 : decode cX2_isBroken 67 = .ok (.iconst 0, 1) := by decide +kernel
theorem dX2_isBroken_68 : decode cX2_isBroken 68 = .ok (.ireturn, 1) := by decide +kernel
theorem dX3_init_0 : decode cX3_init 0 = .ok (.aload_n 0, 1) := by decide +kernel
theorem dX3_init_1 : decode cX3_init 1 = .ok (.invokespecial 3, 3) := by decide +kernel
theorem dX3_init_4 : decode cX3_init 4 = .ok (.aload_n 0, 1) := by decide +kernel
theorem dX3_init_5 : decode cX3_init 5 = .ok (.bipush 12, 2) := by decide +kernel
theorem dX3_init_7 : decode cX3_init 7 = .ok (.newarray .int, 2) := by decide +kernel
theorem dX3_init_9 : decode cX3_init 9 = .ok (.putfield 9, 3) := by decide +kernel
theorem dX3_init_12 : decode cX3_init 12 = .ok (.aload_n 0, 1) := by decide +kernel
theorem dX3_init_13 : decode cX3_init 13 = .ok (.sipush 144, 3) := by decide +kernel
theorem dX3_init_16 : decode cX3_init 16 = .ok (.newarray .long, 2) := by decide +kernel
theorem dX3_init_18 : decode cX3_init 18 = .ok (.putfield 15, 3) := by decide +kernel
theorem dX3_init_21 : decode cX3_init 21 = .ok (.aload_n 0, 1) := by decide +kernel
theorem dX3_init_22 : decode cX3_init 22 = .ok (.new 19, 3) := by decide +kernel
theorem dX3_init_25 : decode cX3_init 25 = .ok (.dup, 1) := by decide +kernel
theorem dX3_init_26 : decode cX3_init 26 = .ok (.invokespecial 21, 3) := by decide +kernel
theorem dX3_init_29 : decode cX3_init 29 = .ok (.putfield 22, 3) := by decide +kernel
theorem dX3_init_32 : decode cX3_init 32 = .ok (.aload_n 0, 1) := by decide +kernel
theorem dX3_init_33 : decode cX3_init 33 = .ok (.new 26, 3) := by decide +kernel
theorem dX3_init_36 : decode cX3_init 36 = .ok (.dup, 1) := by decide +kernel
theorem dX3_init_37 : decode cX3_init 37 = .ok (.invokespecial 28, 3) := by decide +kernel
theorem dX3_init_40 : decode cX3_init 40 = .ok (.putfield 29, 3) := by decide +kernel
theorem dX3_init_43 : decode cX3_init 43 = .ok (.return_, 1) := by decide +kernel
theorem dX3_run_0 : decode cX3_run 0 = .ok (.aload_n 0, 1) := by decide +kernel
theorem dX3_run_1 : decode cX3_run 1 = .ok (.aload_n 1, 1) := by decide +kernel
theorem dX3_run_2 : decode cX3_run 2 = .ok (.invokevirtual 33, 3) := by decide +kernel
theorem dX3_run_5 : decode cX3_run 5 = .ok (.aload_n 0, 1) := by decide +kernel
theorem dX3_run_6 : decode cX3_run 6 = .ok (.aload_n 1, 1) := by decide +kernel
theorem dX3_run_7 : decode cX3_run 7 = .ok (.invokevirtual 37, 3) := by decide +kernel
theorem dX3_run_10 : decode cX3_run 10 = .ok (.aload_n 0, 1) := by decide +kernel
theorem dX3_run_11 : decode cX3_run 11 = .ok (.iload_n 2, 1) := by decide +kernel
theorem dX3_run_12 : decode cX3_run 12 = .ok (.invokevirtual 40, 3) := by decide +kernel
theorem dX3_run_15 : decode cX3_run 15 = .ok (.aload_n 0, 1) := by decide +kernel
theorem dX3_run_16 : decode cX3_run 16 = .ok (.getfield 22, 3) := by decide +kernel
theorem dX3_run_19 : decode cX3_run 19 = .ok (.aload_n 1, 1) := by decide +kernel
theorem dX3_run_20 : decode cX3_run 20 = .ok (.getfield 44, 3) := by decide +kernel
theorem dX3_run_23 : decode cX3_run 23 = .ok (.putfield 48, 3) := by decide +kernel
theorem dX3_run_26 : decode cX3_run 26 = .ok (.ldc2_w 51, 3) := by decide +kernel
theorem dX3_run_29 : decode cX3_run 29 = .ok (.lstore 4, 2) := by decide +kernel
theorem dX3_run_31 : decode cX3_run 31 = .ok (.iconst 0, 1) := by decide +kernel
theorem dX3_run_32 : decode cX3_run 32 = .ok (.istore 6, 2) := by decide +kernel
theorem dX3_run_34 : decode cX3_run 34 = .ok (.iload 6, 2) := by decide +kernel
theorem dX3_run_36 : decode cX3_run 36 = .ok (.iconst 1, 1) := by decide +kernel
theorem dX3_run_37 : decode cX3_run 37 = .ok (.aload_n 1, 1) := by decide +kernel
theorem dX3_run_38 : decode cX3_run 38 = .ok (.getfield 44, 3) := by decide +kernel
theorem dX3_run_41 : decode cX3_run 41 = .ok (.iconst 1, 1) := by decide +kernel
theorem dX3_run_42 : decode cX3_run 42 = .ok (.isub, 1) := by decide +kernel
theorem dX3_run_43 : decode cX3_run 43 = .ok (.ishl, 1) := by decide +kernel
theorem dX3_run_44 : decode cX3_run 44 = .ok (.if_icmp .ge 86, 3) := by decide +kernel
theorem dX3_run_47 : decode cX3_run 47 = .ok (.iload 6, 2) := by decide +kernel
theorem dX3_run_49 : decode cX3_run 49 = .ok (.invokestatic 53, 3) := by decide +kernel
theorem dX3_run_52 : decode cX3_run 52 = .ok (.iload_n 3, 1) := by decide +kernel
theorem dX3_run_53 : decode cX3_run 53 = .ok (.iconst 1, 1) := by decide +kernel
theorem dX3_run_54 : decode cX3_run 54 = .ok (.isub, 1) := by decide +kernel
theorem dX3_run_55 : decode cX3_run 55 = .ok (.if_icmp .eq 6, 3) := by decide +kernel
theorem dX3_run_58 : decode cX3_run 58 = .ok (.goto 66, 3) := by decide +kernel
theorem dX3_run_61 : decode cX3_run 61 = .ok (.aload_n 0, 1) := by decide +kernel
theorem dX3_run_62 : decode cX3_run 62 = .ok (.iload_n 2, 1) := by decide +kernel
theorem dX3_run_63 : decode cX3_run 63 = .ok (.iload 6, 2) := by decide +kernel
theorem dX3_run_65 : decode cX3_run 65 = .ok (.invokevirtual 59, 3) := by decide +kernel
theorem dX3_run_68 : decode cX3_run 68 = .ok (.lstore 7, 2) := by decide +kernel
theorem dX3_run_70 : decode cX3_run 70 = .ok (.lload 7, 2) := by decide +kernel
theorem dX3_run_72 : decode cX3_run 72 = .ok (.lload 4, 2) := by decide +kernel
theorem dX3_run_74 : decode cX3_run 74 = .ok (.lcmp, 1) := by decide +kernel
theorem dX3_run_75 : decode cX3_run 75 = .ok (.ifCond .le 6, 3) := by decide +kernel
theorem dX3_run_78 : decode cX3_run 78 = .ok (.goto 46, 3) := by decide +kernel
theorem dX3_run_81 : decode cX3_run 81 = .ok (.aload_n 0, 1) := by decide +kernel
theorem dX3_run_82 : decode cX3_run 82 = .ok (.iload 6, 2) := by decide +kernel
theorem dX3_run_84 : decode cX3_run 84 = .ok (.invokevirtual 63, 3) := by decide +kernel
theorem dX3_run_87 : decode cX3_run 87 = .ok (.lload 7, 2) := by decide +kernel
theorem dX3_run_89 : decode cX3_run 89 = .ok (.lload 4, 2) := by decide +kernel
theorem dX3_run_91 : decode cX3_run 91 = .ok (.lcmp, 1) := by decide +kernel
theorem dX3_run_92 : decode cX3_run 92 = .ok (.ifCond .lt 17, 3) := by decide +kernel
theorem dX3_run_95 : decode cX3_run 95 = .ok (.aload_n 0, 1) := by decide +kernel
theorem dX3_run_96 : decode cX3_run 96 = .ok (.getfield 22, 3) := by decide +kernel
theorem dX3_run_99 : decode cX3_run 99 = .ok (.aload_n 1, 1) := by decide +kernel
theorem dX3_run_100 : decode cX3_run 100 = .ok (.getfield 66, 3) := by decide +kernel
theorem dX3_run_103 : decode cX3_run 103 = .ok (.invokevirtual 69, 3) := by decide +kernel
theorem dX3_run_106 : decode cX3_run 106 = .ok (.ifCond .eq 18, 3) := by decide +kernel
theorem dX3_run_109 : decode cX3_run 109 = .ok (.lload 7, 2) := by decide +kernel
theorem dX3_run_111 : decode cX3_run 111 = .ok (.lstore 4, 2) := by decide +kernel
theorem dX3_run_113 : decode cX3_run 113 = .ok (.aload_n 1, 1) := by decide +kernel
theorem dX3_run_114 : decode cX3_run 114 = .ok (.getfield 66, 3) := by decide +kernel
theorem dX3_run_117 : decode cX3_run 117 = .ok (.aload_n 0, 1) := by decide +kernel
theorem dX3_run_118 : decode cX3_run 118 = .ok (.getfield 22, 3) := by decide +kernel
theorem dX3_run_121 : decode cX3_run 121 = .ok (.invokevirtual 73, 3) := by decide +kernel
theorem dX3_run_124 : decode cX3_run 124 = .ok (.iinc 6 1, 3) := by decide +kernel
theorem dX3_run_127 : decode cX3_run 127 = .ok (.goto (-93), 3) := by decide +kernel
theorem dX3_run_130 : decode cX3_run 130 = .ok (.lload 4, 2) := by decide +kernel
theorem dX3_run_132 : decode cX3_run 132 = .ok (.lreturn, 1) := by decide +kernel
theorem dX3_flatten_0 : decode cX3_flatten 0 = .ok (.aload_n 0, 1) := by decide +kernel
theorem dX3_flatten_1 : decode cX3_flatten 1 = .ok (.getfield 29, 3) := by decide +kernel
theorem dX3_flatten_4 : decode cX3_flatten 4 = .ok (.aload_n 1, 1) := by decide +kernel
theorem dX3_flatten_5 : decode cX3_flatten 5 = .ok (.getfield 44, 3) := by decide +kernel
theorem dX3_flatten_8 : decode cX3_flatten 8 = .ok (.putfield 44, 3) := by decide +kernel
theorem dX3_flatten_11 : decode cX3_flatten 11 = .ok (.iconst 1, 1) := by decide +kernel
theorem dX3_flatten_12 : decode cX3_flatten 12 = .ok (.istore_n 2, 1) := by decide +kernel
theorem dX3_flatten_13 : decode cX3_flatten 13 = .ok (.iload_n 2, 1) := by decide +kernel
theorem dX3_flatten_14 : decode cX3_flatten 14 = .ok (.aload_n 1, 1) := by decide +kernel
theorem dX3_flatten_15 : decode cX3_flatten 15 = .ok (.getfield 44, 3) := by decide +kernel
theorem dX3_flatten_18 : decode cX3_flatten 18 = .ok (.if_icmp .ge 45, 3) := by decide +kernel
theorem dX3_flatten_21 : decode cX3_flatten 21 = .ok (.iconst 0, 1) := by decide +kernel
theorem dX3_flatten_22 : decode cX3_flatten 22 = .ok (.istore_n 3, 1) := by decide +kernel
theorem dX3_flatten_23 : decode cX3_flatten 23 = .ok (.iload_n 3, 1) := by decide +kernel
theorem dX3_flatten_24 : decode cX3_flatten 24 = .ok (.iload_n 2, 1) := by decide +kernel
theorem dX3_flatten_25 : decode cX3_flatten 25 = .ok (.if_icmp .ge 32, 3) := by decide +kernel
theorem dX3_flatten_28 : decode cX3_flatten 28 = .ok (.aload_n 0, 1) := by decide +kernel
theorem dX3_flatten_29 : decode cX3_flatten 29 = .ok (.getfield 29, 3) := by decide +kernel
theorem dX3_flatten_32 : decode cX3_flatten 32 = .ok (.iload_n 2, 1) := by decide +kernel
theorem dX3_flatten_33 : decode cX3_flatten 33 = .ok (.iload_n 3, 1) := by decide +kernel
theorem dX3_flatten_34 : decode cX3_flatten 34 = .ok (.aload_n 1, 1) := by decide +kernel
theorem dX3_flatten_35 : decode cX3_flatten 35 = .ok (.iload_n 2, 1) := by decide +kernel
theorem dX3_flatten_36 : decode cX3_flatten 36 = .ok (.invokevirtual 77, 3) := by decide +kernel
theorem dX3_flatten_39 : decode cX3_flatten 39 = .ok (.aload_n 1, 1) := by decide +kernel
theorem dX3_flatten_40 : decode cX3_flatten 40 = .ok (.iload_n 3, 1) := by decide +kernel
theorem dX3_flatten_41 : decode cX3_flatten 41 = .ok (.invokevirtual 77, 3) := by decide +kernel
theorem dX3_flatten_44 : decode cX3_flatten 44 = .ok (.isub, 1) := by decide +kernel
theorem dX3_flatten_45 : decode cX3_flatten 45 = .ok (.invokestatic 80, 3) := by decide +kernel
theorem dX3_flatten_48 : decode cX3_flatten 48 = .ok (.invokevirtual 85, 3) := by decide +kernel
theorem dX3_flatten_51 : decode cX3_flatten 51 = .ok (.iinc 3 1, 3) := by decide +kernel
theorem dX3_flatten_54 : decode cX3_flatten 54 = .ok (.goto (-31), 3) := by decide +kernel
theorem dX3_flatten_57 : decode cX3_flatten 57 = .ok (.iinc 2 1, 3) := by decide +kernel
theorem dX3_flatten_60 : decode cX3_flatten 60 = .ok (.goto (-47), 3) := by decide +kernel
theorem dX3_flatten_63 : decode cX3_flatten 63 = .ok (.return_, 1) := by decide +kernel
theorem dX3_sortThings_0 : decode cX3_sortThings 0 = .ok (.iconst 0, 1) := by decide +kernel
theorem dX3_sortThings_1 : decode cX3_sortThings 1 = .ok (.istore_n 2, 1) := by decide +kernel
theorem dX3_sortThings_2 : decode cX3_sortThings 2 = .ok (.iload_n 2, 1) := by decide +kernel
theorem dX3_sortThings_3 : decode cX3_sortThings 3 = .ok (.aload_n 1, 1) := by decide +kernel
theorem dX3_sortThings_4 : decode cX3_sortThings 4 = .ok (.getfield 44, 3) := by decide +kernel
theorem dX3_sortThings_7 : decode cX3_sortThings 7 = .ok (.if_icmp .ge 62, 3) := by decide +kernel
theorem dX3_sortThings_10 : decode cX3_sortThings 10 = .ok (.iload_n 2, 1) := by decide +kernel
theorem dX3_sortThings_11 : decode cX3_sortThings 11 = .ok (.istore_n 3, 1) := by decide +kernel
theorem dX3_sortThings_12 : decode cX3_sortThings 12 = .ok (.iload_n 3, 1) := by decide +kernel
theorem dX3_sortThings_13 : decode cX3_sortThings 13 = .ok (.ifCond .le 43, 3) := by decide +kernel
theorem dX3_sortThings_16 : decode cX3_sortThings 16 = .ok (.aload_n 1, 1) := by decide +kernel
theorem dX3_sortThings_17 : decode cX3_sortThings 17 = .ok (.aload_n 0, 1) := by decide +kernel
theorem dX3_sortThings_18 : decode cX3_sortThings 18 = .ok (.getfield 9, 3) := by decide +kernel
theorem dX3_sortThings_21 : decode cX3_sortThings 21 = .ok (.iload_n 3, 1) := by decide +kernel
theorem dX3_sortThings_22 : decode cX3_sortThings 22 = .ok (.iconst 1, 1) := by decide +kernel
theorem dX3_sortThings_23 : decode cX3_sortThings 23 = .ok (.isub, 1) := by decide +kernel
theorem dX3_sortThings_24 : decode cX3_sortThings 24 = .ok (.iaload, 1) := by decide +kernel
theorem dX3_sortThings_25 : decode cX3_sortThings 25 = .ok (.invokevirtual 77, 3) := by decide +kernel
theorem dX3_sortThings_28 : decode cX3_sortThings 28 = .ok (.aload_n 1, 1) := by decide +kernel
theorem dX3_sortThings_29 : decode cX3_sortThings 29 = .ok (.iload_n 2, 1) := by decide +kernel
theorem dX3_sortThings_30 : decode cX3_sortThings 30 = .ok (.invokevirtual 77, 3) := by decide +kernel
theorem dX3_sortThings_33 : decode cX3_sortThings 33 = .ok (.if_icmp .le 23, 3) := by decide +kernel
theorem dX3_sortThings_36 : decode cX3_sortThings 36 = .ok (.aload_n 0, 1) := by decide +kernel
theorem dX3_sortThings_37 : decode cX3_sortThings 37 = .ok (.getfield 9, 3) := by decide +kernel
theorem dX3_sortThings_40 : decode cX3_sortThings 40 = .ok (.iload_n 3, 1) := by decide +kernel
theorem dX3_sortThings_41 : decode cX3_sortThings 41 = .ok (.aload_n 0, 1) := by decide +kernel
theorem dX3_sortThings_42 : decode cX3_sortThings 42 = .ok (.getfield 9, 3) := by decide +kernel
theorem dX3_sortThings_45 : decode cX3_sortThings 45 = .ok (.iload_n 3, 1) := by decide +kernel
theorem dX3_sortThings_46 : decode cX3_sortThings 46 = .ok (.iconst 1, 1) := by decide +kernel
theorem dX3_sortThings_47 : decode cX3_sortThings 47 = .ok (.isub, 1) := by decide +kernel
theorem dX3_sortThings_48 : decode cX3_sortThings 48 = .ok (.iaload, 1) := by decide +kernel
theorem dX3_sortThings_49 : decode cX3_sortThings 49 = .ok (.iastore, 1) := by decide +kernel
theorem dX3_sortThings_50 : decode cX3_sortThings 50 = .ok (.iinc 3 (-1), 3) := by decide +kernel
theorem dX3_sortThings_53 : decode cX3_sortThings 53 = .ok (.goto (-41), 3) := by decide +kernel
theorem dX3_sortThings_56 : decode cX3_sortThings 56 = .ok (.aload_n 0, 1) := by decide +kernel
theorem dX3_sortThings_57 : decode cX3_sortThings 57 = .ok (.getfield 9, 3) := by decide +kernel
theorem dX3_sortThings_60 : decode cX3_sortThings 60 = .ok (.iload_n 3, 1) := by decide +kernel
theorem dX3_sortThings_61 : decode cX3_sortThings 61 = .ok (.iload_n 2, 1) := by decide +kernel
theorem dX3_sortThings_62 : decode cX3_sortThings 62 = .ok (.iastore, 1) := by decide +kernel
theorem dX3_sortThings_63 : decode cX3_sortThings 63 = .ok (.iinc 2 1, 3) := by decide +kernel
theorem dX3_sortThings_66 : decode cX3_sortThings 66 = .ok (.goto (-64), 3) := by decide +kernel
theorem dX3_sortThings_69 : decode cX3_sortThings 69 = .ok (.return_, 1) := by decide +kernel
theorem dX3_costAllSpans_0 : decode cX3_costAllSpans 0 = .ok (.iconst 0, 1) := by decide +kernel
theorem dX3_costAllSpans_1 : decode cX3_costAllSpans 1 = .ok (.istore_n 2, 1) := by decide +kernel
theorem dX3_costAllSpans_2 : decode cX3_costAllSpans 2 = .ok (.iload_n 2, 1) := by decide +kernel
theorem dX3_costAllSpans_3 : decode cX3_costAllSpans 3 = .ok (.aload_n 0, 1) := by decide +kernel
theorem dX3_costAllSpans_4 : decode cX3_costAllSpans 4 = .ok (.getfield 29, 3) := by decide +kernel
theorem dX3_costAllSpans_7 : decode cX3_costAllSpans 7 = .ok (.getfield 44, 3) := by decide +kernel
theorem dX3_costAllSpans_10 : decode cX3_costAllSpans 10 = .ok (.if_icmp .ge 65, 3) := by decide +kernel
theorem dX3_costAllSpans_13 : decode cX3_costAllSpans 13 = .ok (.iconst 0, 1) := by decide +kernel
theorem dX3_costAllSpans_14 : decode cX3_costAllSpans 14 = .ok (.istore_n 3, 1) := by decide +kernel
theorem dX3_costAllSpans_15 : decode cX3_costAllSpans 15 = .ok (.iload_n 2, 1) := by decide +kernel
theorem dX3_costAllSpans_16 : decode cX3_costAllSpans 16 = .ok (.istore 4, 2) := by decide +kernel
theorem dX3_costAllSpans_18 : decode cX3_costAllSpans 18 = .ok (.iload 4, 2) := by decide +kernel
theorem dX3_costAllSpans_20 : decode cX3_costAllSpans 20 = .ok (.aload_n 0, 1) := by decide +kernel
theorem dX3_costAllSpans_21 : decode cX3_costAllSpans 21 = .ok (.getfield 29, 3) := by decide +kernel
theorem dX3_costAllSpans_24 : decode cX3_costAllSpans 24 = .ok (.getfield 44, 3) := by decide +kernel
theorem dX3_costAllSpans_27 : decode cX3_costAllSpans 27 = .ok (.if_icmp .ge 42, 3) := by decide +kernel
theorem dX3_costAllSpans_30 : decode cX3_costAllSpans 30 = .ok (.iload_n 3, 1) := by decide +kernel
theorem dX3_costAllSpans_31 : decode cX3_costAllSpans 31 = .ok (.iconst 1, 1) := by decide +kernel
theorem dX3_costAllSpans_32 : decode cX3_costAllSpans 32 = .ok (.aload_n 0, 1) := by decide +kernel
theorem dX3_costAllSpans_33 : decode cX3_costAllSpans 33 = .ok (.getfield 9, 3) := by decide +kernel
theorem dX3_costAllSpans_36 : decode cX3_costAllSpans 36 = .ok (.iload 4, 2) := by decide +kernel
theorem dX3_costAllSpans_38 : decode cX3_costAllSpans 38 = .ok (.iaload, 1) := by decide +kernel
theorem dX3_costAllSpans_39 : decode cX3_costAllSpans 39 = .ok (.ishl, 1) := by decide +kernel
theorem dX3_costAllSpans_40 : decode cX3_costAllSpans 40 = .ok (.ior, 1) := by decide +kernel
theorem dX3_costAllSpans_41 : decode cX3_costAllSpans 41 = .ok (.istore_n 3, 1) := by decide +kernel
theorem dX3_costAllSpans_42 : decode cX3_costAllSpans 42 = .ok (.aload_n 0, 1) := by decide +kernel
theorem dX3_costAllSpans_43 : decode cX3_costAllSpans 43 = .ok (.getfield 15, 3) := by decide +kernel
theorem dX3_costAllSpans_46 : decode cX3_costAllSpans 46 = .ok (.iload_n 2, 1) := by decide +kernel
theorem dX3_costAllSpans_47 : decode cX3_costAllSpans 47 = .ok (.bipush 12, 2) := by decide +kernel
theorem dX3_costAllSpans_49 : decode cX3_costAllSpans 49 = .ok (.imul, 1) := by decide +kernel
theorem dX3_costAllSpans_50 : decode cX3_costAllSpans 50 = .ok (.iload 4, 2) := by decide +kernel
theorem dX3_costAllSpans_52 : decode cX3_costAllSpans 52 = .ok (.iadd, 1) := by decide +kernel
theorem dX3_costAllSpans_53 : decode cX3_costAllSpans 53 = .ok (.aload_n 0, 1) := by decide +kernel
theorem dX3_costAllSpans_54 : decode cX3_costAllSpans 54 = .ok (.getfield 29, 3) := by decide +kernel
theorem dX3_costAllSpans_57 : decode cX3_costAllSpans 57 = .ok (.iload_n 1, 1) := by decide +kernel
theorem dX3_costAllSpans_58 : decode cX3_costAllSpans 58 = .ok (.iload_n 3, 1) := by decide +kernel
theorem dX3_costAllSpans_59 : decode cX3_costAllSpans 59 = .ok (.invokestatic 89, 3) := by decide +kernel
theorem dX3_costAllSpans_62 : decode cX3_costAllSpans 62 = .ok (.lastore, 1) := by decide +kernel
theorem dX3_costAllSpans_63 : decode cX3_costAllSpans 63 = .ok (.iinc 4 1, 3) := by decide +kernel
theorem dX3_costAllSpans_66 : decode cX3_costAllSpans 66 = .ok (.goto (-48), 3) := by decide +kernel
theorem dX3_costAllSpans_69 : decode cX3_costAllSpans 69 = .ok (.iinc 2 1, 3) := by decide +kernel
theorem dX3_costAllSpans_72 : decode cX3_costAllSpans 72 = .ok (.goto (-70), 3) := by decide +kernel
theorem dX3_costAllSpans_75 : decode cX3_costAllSpans 75 = .ok (.return_, 1) := by decide +kernel
theorem dX3_endsAt_0 : decode cX3_endsAt 0 = .ok (.iload_n 2, 1) := by decide +kernel
theorem dX3_endsAt_1 : decode cX3_endsAt 1 = .ok (.aload_n 0, 1) := by decide +kernel
theorem dX3_endsAt_2 : decode cX3_endsAt 2 = .ok (.getfield 29, 3) := by decide +kernel
theorem dX3_endsAt_5 : decode cX3_endsAt 5 = .ok (.getfield 44, 3) := by decide +kernel
theorem dX3_endsAt_8 : decode cX3_endsAt 8 = .ok (.iconst 1, 1) := by decide +kernel
theorem dX3_endsAt_9 : decode cX3_endsAt 9 = .ok (.isub, 1) := by decide +kernel
theorem dX3_endsAt_10 : decode cX3_endsAt 10 = .ok (.if_icmp .eq 11, 3) := by decide +kernel
theorem dX3_endsAt_13 : decode cX3_endsAt 13 = .ok (.iload_n 1, 1) := by decide +kernel
theorem dX3_endsAt_14 : decode cX3_endsAt 14 = .ok (.iload_n 2, 1) := by decide +kernel
theorem dX3_endsAt_15 : decode cX3_endsAt 15 = .ok (.invokestatic 95, 3) := by decide +kernel
theorem dX3_endsAt_18 : decode cX3_endsAt 18 = .ok (.ifCond .eq 7, 3) := by decide +kernel
theorem dX3_endsAt_21 : decode cX3_endsAt 21 = .ok (.iconst 1, 1) := by decide +kernel
theorem dX3_endsAt_22 : decode cX3_endsAt 22 = .ok (.goto 4, 3) := by decide +kernel
theorem dX3_endsAt_25 : decode cX3_endsAt 25 = .ok (.iconst 0, 1) := by decide +kernel
theorem dX3_endsAt_26 : decode cX3_endsAt 26 = .ok (.ireturn, 1) := by decide +kernel
theorem dX3_costOf_0 : decode cX3_costOf 0 = .ok (.lconst 0, 1) := by decide +kernel
theorem dX3_costOf_1 : decode cX3_costOf 1 = .ok (.lstore_n 3, 1) := by decide +kernel
theorem dX3_costOf_2 : decode cX3_costOf 2 = .ok (.iconst 0, 1) := by decide +kernel
theorem dX3_costOf_3 : decode cX3_costOf 3 = .ok (.istore 5, 2) := by decide +kernel
theorem dX3_costOf_5 : decode cX3_costOf 5 = .ok (.iconst 0, 1) := by decide +kernel
theorem dX3_costOf_6 : decode cX3_costOf 6 = .ok (.istore 6, 2) := by decide +kernel
theorem dX3_costOf_8 : decode cX3_costOf 8 = .ok (.iload 6, 2) := by decide +kernel
theorem dX3_costOf_10 : decode cX3_costOf 10 = .ok (.aload_n 0, 1) := by decide +kernel
theorem dX3_costOf_11 : decode cX3_costOf 11 = .ok (.getfield 29, 3) := by decide +kernel
theorem dX3_costOf_14 : decode cX3_costOf 14 = .ok (.getfield 44, 3) := by decide +kernel
theorem dX3_costOf_17 : decode cX3_costOf 17 = .ok (.if_icmp .ge 44, 3) := by decide +kernel
theorem dX3_costOf_20 : decode cX3_costOf 20 = .ok (.aload_n 0, 1) := by decide +kernel
theorem dX3_costOf_21 : decode cX3_costOf 21 = .ok (.iload_n 2, 1) := by decide +kernel
theorem dX3_costOf_22 : decode cX3_costOf 22 = .ok (.iload 6, 2) := by decide +kernel
theorem dX3_costOf_24 : decode cX3_costOf 24 = .ok (.invokevirtual 99, 3) := by decide +kernel
theorem dX3_costOf_27 : decode cX3_costOf 27 = .ok (.ifCond .eq 28, 3) := by decide +kernel
theorem dX3_costOf_30 : decode cX3_costOf 30 = .ok (.iload_n 1, 1) := by decide +kernel
theorem dX3_costOf_31 : decode cX3_costOf 31 = .ok (.lload_n 3, 1) := by decide +kernel
theorem dX3_costOf_32 : decode cX3_costOf 32 = .ok (.aload_n 0, 1) := by decide +kernel
theorem dX3_costOf_33 : decode cX3_costOf 33 = .ok (.getfield 15, 3) := by decide +kernel
theorem dX3_costOf_36 : decode cX3_costOf 36 = .ok (.iload 5, 2) := by decide +kernel
theorem dX3_costOf_38 : decode cX3_costOf 38 = .ok (.bipush 12, 2) := by decide +kernel
theorem dX3_costOf_40 : decode cX3_costOf 40 = .ok (.imul, 1) := by decide +kernel
theorem dX3_costOf_41 : decode cX3_costOf 41 = .ok (.iload 6, 2) := by decide +kernel
theorem dX3_costOf_43 : decode cX3_costOf 43 = .ok (.iadd, 1) := by decide +kernel
theorem dX3_costOf_44 : decode cX3_costOf 44 = .ok (.laload, 1) := by decide +kernel
theorem dX3_costOf_45 : decode cX3_costOf 45 = .ok (.invokestatic 102, 3) := by decide +kernel
theorem dX3_costOf_48 : decode cX3_costOf 48 = .ok (.lstore_n 3, 1) := by decide +kernel
theorem dX3_costOf_49 : decode cX3_costOf 49 = .ok (.iload 6, 2) := by decide +kernel
theorem dX3_costOf_51 : decode cX3_costOf 51 = .ok (.iconst 1, 1) := by decide +kernel
theorem dX3_costOf_52 : decode cX3_costOf 52 = .ok (.iadd, 1) := by decide +kernel
theorem dX3_costOf_53 : decode cX3_costOf 53 = .ok (.istore 5, 2) := by decide +kernel
theorem dX3_costOf_55 : decode cX3_costOf 55 = .ok (.iinc 6 1, 3) := by decide +kernel
theorem dX3_costOf_58 : decode cX3_costOf 58 = .ok (.goto (-50), 3) := by decide +kernel
theorem dX3_costOf_61 : decode cX3_costOf 61 = .ok (.lload_n 3, 1) := by decide +kernel
theorem dX3_costOf_62 : decode cX3_costOf 62 = .ok (.lreturn, 1) := by decide +kernel
theorem dX3_partBy_0 : decode cX3_partBy 0 = .ok (.iconst 0, 1) := by decide +kernel
theorem dX3_partBy_1 : decode cX3_partBy 1 = .ok (.istore_n 2, 1) := by decide +kernel
theorem dX3_partBy_2 : decode cX3_partBy 2 = .ok (.iconst 0, 1) := by decide +kernel
theorem dX3_partBy_3 : decode cX3_partBy 3 = .ok (.istore_n 3, 1) := by decide +kernel
theorem dX3_partBy_4 : decode cX3_partBy 4 = .ok (.iload_n 3, 1) := by decide +kernel
theorem dX3_partBy_5 : decode cX3_partBy 5 = .ok (.aload_n 0, 1) := by decide +kernel
theorem dX3_partBy_6 : decode cX3_partBy 6 = .ok (.getfield 29, 3) := by decide +kernel
theorem dX3_partBy_9 : decode cX3_partBy 9 = .ok (.getfield 44, 3) := by decide +kernel
theorem dX3_partBy_12 : decode cX3_partBy 12 = .ok (.if_icmp .ge 41, 3) := by decide +kernel
theorem dX3_partBy_15 : decode cX3_partBy 15 = .ok (.aload_n 0, 1) := by decide +kernel
theorem dX3_partBy_16 : decode cX3_partBy 16 = .ok (.getfield 22, 3) := by decide +kernel
theorem dX3_partBy_19 : decode cX3_partBy 19 = .ok (.getfield 106, 3) := by decide +kernel
theorem dX3_partBy_22 : decode cX3_partBy 22 = .ok (.aload_n 0, 1) := by decide +kernel
theorem dX3_partBy_23 : decode cX3_partBy 23 = .ok (.getfield 9, 3) := by decide +kernel
theorem dX3_partBy_26 : decode cX3_partBy 26 = .ok (.iload_n 3, 1) := by decide +kernel
theorem dX3_partBy_27 : decode cX3_partBy 27 = .ok (.iaload, 1) := by decide +kernel
theorem dX3_partBy_28 : decode cX3_partBy 28 = .ok (.iload_n 2, 1) := by decide +kernel
theorem dX3_partBy_29 : decode cX3_partBy 29 = .ok (.iastore, 1) := by decide +kernel
theorem dX3_partBy_30 : decode cX3_partBy 30 = .ok (.iload_n 2, 1) := by decide +kernel
theorem dX3_partBy_31 : decode cX3_partBy 31 = .ok (.aload_n 0, 1) := by decide +kernel
theorem dX3_partBy_32 : decode cX3_partBy 32 = .ok (.iload_n 1, 1) := by decide +kernel
theorem dX3_partBy_33 : decode cX3_partBy 33 = .ok (.iload_n 3, 1) := by decide +kernel
theorem dX3_partBy_34 : decode cX3_partBy 34 = .ok (.invokevirtual 99, 3) := by decide +kernel
theorem dX3_partBy_37 : decode cX3_partBy 37 = .ok (.ifCond .eq 7, 3) := by decide +kernel
theorem dX3_partBy_40 : decode cX3_partBy 40 = .ok (.iconst 1, 1) := by decide +kernel
theorem dX3_partBy_41 : decode cX3_partBy 41 = .ok (.goto 4, 3) := by decide +kernel
theorem dX3_partBy_44 : decode cX3_partBy 44 = .ok (.iconst 0, 1) := by decide +kernel
theorem dX3_partBy_45 : decode cX3_partBy 45 = .ok (.iadd, 1) := by decide +kernel
theorem dX3_partBy_46 : decode cX3_partBy 46 = .ok (.istore_n 2, 1) := by decide +kernel
theorem dX3_partBy_47 : decode cX3_partBy 47 = .ok (.iinc 3 1, 3) := by decide +kernel
theorem dX3_partBy_50 : decode cX3_partBy 50 = .ok (.goto (-46), 3) := by decide +kernel
theorem dX3_partBy_53 : decode cX3_partBy 53 = .ok (.aload_n 0, 1) := by decide +kernel
theorem dX3_partBy_54 : decode cX3_partBy 54 = .ok (.getfield 22, 3) := by decide +kernel
theorem dX3_partBy_57 : decode cX3_partBy 57 = .ok (.invokevirtual 109, 3) := by decide +kernel
theorem dX3_partBy_60 : decode cX3_partBy 60 = .ok (.return_, 1) := by decide +kernel
theorem dX4_init_0 : decode cX4_init 0 = .ok (.aload_n 0, 1) := by decide +kernel
theorem dX4_init_1 : decode cX4_init 1 = .ok (.invokespecial 3, 3) := by decide +kernel
theorem dX4_init_4 : decode cX4_init 4 = .ok (.aload_n 0, 1) := by decide +kernel
theorem dX4_init_5 : decode cX4_init 5 = .ok (.bipush 12, 2) := by decide +kernel
theorem dX4_init_7 : decode cX4_init 7 = .ok (.newarray .int, 2) := by decide +kernel
theorem dX4_init_9 : decode cX4_init 9 = .ok (.putfield 9, 3) := by decide +kernel
theorem dX4_init_12 : decode cX4_init 12 = .ok (.aload_n 0, 1) := by decide +kernel
theorem dX4_init_13 : decode cX4_init 13 = .ok (.bipush 12, 2) := by decide +kernel
theorem dX4_init_15 : decode cX4_init 15 = .ok (.newarray .long, 2) := by decide +kernel
theorem dX4_init_17 : decode cX4_init 17 = .ok (.putfield 15, 3) := by decide +kernel
theorem dX4_init_20 : decode cX4_init 20 = .ok (.aload_n 0, 1) := by decide +kernel
theorem dX4_init_21 : decode cX4_init 21 = .ok (.lconst 0, 1) := by decide +kernel
theorem dX4_init_22 : decode cX4_init 22 = .ok (.putfield 19, 3) := by decide +kernel
theorem dX4_init_25 : decode cX4_init 25 = .ok (.return_, 1) := by decide +kernel
theorem dX4_run_0 : decode cX4_run 0 = .ok (.iconst 0, 1) := by decide +kernel
theorem dX4_run_1 : decode cX4_run 1 = .ok (.istore_n 3, 1) := by decide +kernel
theorem dX4_run_2 : decode cX4_run 2 = .ok (.iload_n 3, 1) := by decide +kernel
theorem dX4_run_3 : decode cX4_run 3 = .ok (.ldc 23, 2) := by decide +kernel
theorem dX4_run_5 : decode cX4_run 5 = .ok (.if_icmp .ge 18, 3) := by decide +kernel
theorem dX4_run_8 : decode cX4_run 8 = .ok (.aload_n 0, 1) := by decide +kernel
theorem dX4_run_9 : decode cX4_run 9 = .ok (.aload_n 1, 1) := by decide +kernel
theorem dX4_run_10 : decode cX4_run 10 = .ok (.iload_n 2, 1) := by decide +kernel
theorem dX4_run_11 : decode cX4_run 11 = .ok (.invokevirtual 24, 3) := by decide +kernel
theorem dX4_run_14 : decode cX4_run 14 = .ok (.ifCond .eq 9, 3) := by decide +kernel
theorem dX4_run_17 : decode cX4_run 17 = .ok (.iinc 3 1, 3) := by decide +kernel
theorem dX4_run_20 : decode cX4_run 20 = .ok (.goto (-18), 3) := by decide +kernel
theorem dX4_run_23 : decode cX4_run 23 = .ok (.iload_n 3, 1) := by decide +kernel
theorem dX4_run_24 : decode cX4_run 24 = .ok (.ireturn, 1) := by decide +kernel
theorem dX4_weighHeaps_0 : decode cX4_weighHeaps 0 = .ok (.aload_n 0, 1) := by decide +kernel
theorem dX4_weighHeaps_1 : decode cX4_weighHeaps 1 = .ok (.aload_n 1, 1) := by decide +kernel
theorem dX4_weighHeaps_2 : decode cX4_weighHeaps 2 = .ok (.iload_n 2, 1) := by decide +kernel
theorem dX4_weighHeaps_3 : decode cX4_weighHeaps 3 = .ok (.invokestatic 28, 3) := by decide +kernel
theorem dX4_weighHeaps_6 : decode cX4_weighHeaps 6 = .ok (.putfield 19, 3) := by decide +kernel
theorem dX4_weighHeaps_9 : decode cX4_weighHeaps 9 = .ok (.iconst 0, 1) := by decide +kernel
theorem dX4_weighHeaps_10 : decode cX4_weighHeaps 10 = .ok (.istore_n 3, 1) := by decide +kernel
theorem dX4_weighHeaps_11 : decode cX4_weighHeaps 11 = .ok (.iload_n 3, 1) := by decide +kernel
theorem dX4_weighHeaps_12 : decode cX4_weighHeaps 12 = .ok (.aload_n 1, 1) := by decide +kernel
theorem dX4_weighHeaps_13 : decode cX4_weighHeaps 13 = .ok (.getfield 33, 3) := by decide +kernel
theorem dX4_weighHeaps_16 : decode cX4_weighHeaps 16 = .ok (.getfield 39, 3) := by decide +kernel
theorem dX4_weighHeaps_19 : decode cX4_weighHeaps 19 = .ok (.if_icmp .ge 40, 3) := by decide +kernel
theorem dX4_weighHeaps_22 : decode cX4_weighHeaps 22 = .ok (.aload_n 0, 1) := by decide +kernel
theorem dX4_weighHeaps_23 : decode cX4_weighHeaps 23 = .ok (.getfield 9, 3) := by decide +kernel
theorem dX4_weighHeaps_26 : decode cX4_weighHeaps 26 = .ok (.iload_n 3, 1) := by decide +kernel
theorem dX4_weighHeaps_27 : decode cX4_weighHeaps 27 = .ok (.aload_n 1, 1) := by decide +kernel
theorem dX4_weighHeaps_28 : decode cX4_weighHeaps 28 = .ok (.getfield 33, 3) := by decide +kernel
theorem dX4_weighHeaps_31 : decode cX4_weighHeaps 31 = .ok (.iload_n 3, 1) := by decide +kernel
theorem dX4_weighHeaps_32 : decode cX4_weighHeaps 32 = .ok (.invokevirtual 45, 3) := by decide +kernel
theorem dX4_weighHeaps_35 : decode cX4_weighHeaps 35 = .ok (.iastore, 1) := by decide +kernel
theorem dX4_weighHeaps_36 : decode cX4_weighHeaps 36 = .ok (.aload_n 0, 1) := by decide +kernel
theorem dX4_weighHeaps_37 : decode cX4_weighHeaps 37 = .ok (.getfield 15, 3) := by decide +kernel
theorem dX4_weighHeaps_40 : decode cX4_weighHeaps 40 = .ok (.iload_n 3, 1) := by decide +kernel
theorem dX4_weighHeaps_41 : decode cX4_weighHeaps 41 = .ok (.aload_n 1, 1) := by decide +kernel
theorem dX4_weighHeaps_42 : decode cX4_weighHeaps 42 = .ok (.iload_n 2, 1) := by decide +kernel
theorem dX4_weighHeaps_43 : decode cX4_weighHeaps 43 = .ok (.aload_n 0, 1) := by decide +kernel
theorem dX4_weighHeaps_44 : decode cX4_weighHeaps 44 = .ok (.getfield 9, 3) := by decide +kernel
theorem dX4_weighHeaps_47 : decode cX4_weighHeaps 47 = .ok (.iload_n 3, 1) := by decide +kernel
theorem dX4_weighHeaps_48 : decode cX4_weighHeaps 48 = .ok (.iaload, 1) := by decide +kernel
theorem dX4_weighHeaps_49 : decode cX4_weighHeaps 49 = .ok (.invokestatic 49, 3) := by decide +kernel
theorem dX4_weighHeaps_52 : decode cX4_weighHeaps 52 = .ok (.lastore, 1) := by decide +kernel
theorem dX4_weighHeaps_53 : decode cX4_weighHeaps 53 = .ok (.iinc 3 1, 3) := by decide +kernel
theorem dX4_weighHeaps_56 : decode cX4_weighHeaps 56 = .ok (.goto (-45), 3) := by decide +kernel
theorem dX4_weighHeaps_59 : decode cX4_weighHeaps 59 = .ok (.return_, 1) := by decide +kernel
theorem dX4_makeBestMove_0 : decode cX4_makeBestMove 0 = .ok (.aload_n 0, 1) := by decide +kernel
theorem dX4_makeBestMove_1 : decode cX4_makeBestMove 1 = .ok (.aload_n 1, 1) := by decide +kernel
theorem dX4_makeBestMove_2 : decode cX4_makeBestMove 2 = .ok (.iload_n 2, 1) := by decide +kernel
theorem dX4_makeBestMove_3 : decode cX4_makeBestMove 3 = .ok (.invokevirtual 53, 3) := by decide +kernel
theorem dX4_makeBestMove_6 : decode cX4_makeBestMove 6 = .ok (.aload_n 1, 1) := by decide +kernel
theorem dX4_makeBestMove_7 : decode cX4_makeBestMove 7 = .ok (.getfield 33, 3) := by decide +kernel
theorem dX4_makeBestMove_10 : decode cX4_makeBestMove 10 = .ok (.astore_n 3, 1) := by decide +kernel
theorem dX4_makeBestMove_11 : decode cX4_makeBestMove 11 = .ok (.aload_n 1, 1) := by decide +kernel
theorem dX4_makeBestMove_12 : decode cX4_makeBestMove 12 = .ok (.iload_n 2, 1) := by decide +kernel
theorem dX4_makeBestMove_13 : decode cX4_makeBestMove 13 = .ok (.aload_n 3, 1) := by decide +kernel
theorem dX4_makeBestMove_14 : decode cX4_makeBestMove 14 = .ok (.invokestatic 57, 3) := by decide +kernel
theorem dX4_makeBestMove_17 : decode cX4_makeBestMove 17 = .ok (.lstore 4, 2) := by decide +kernel
theorem dX4_makeBestMove_19 : decode cX4_makeBestMove 19 = .ok (.iconst (-1), 1) := by decide +kernel
theorem dX4_makeBestMove_20 : decode cX4_makeBestMove 20 = .ok (.istore 6, 2) := by decide +kernel
theorem dX4_makeBestMove_22 : decode cX4_makeBestMove 22 = .ok (.iconst (-1), 1) := by decide +kernel
theorem dX4_makeBestMove_23 : decode cX4_makeBestMove 23 = .ok (.istore 7, 2) := by decide +kernel
theorem dX4_makeBestMove_25 : decode cX4_makeBestMove 25 = .ok (.iconst 0, 1) := by decide +kernel
theorem dX4_makeBestMove_26 : decode cX4_makeBestMove 26 = .ok (.istore 8, 2) := by decide +kernel
theorem dX4_makeBestMove_28 : decode cX4_makeBestMove 28 = .ok (.iload 8, 2) := by decide +kernel
theorem dX4_makeBestMove_30 : decode cX4_makeBestMove 30 = .ok (.aload_n 1, 1) := by decide +kernel
theorem dX4_makeBestMove_31 : decode cX4_makeBestMove 31 = .ok (.getfield 61, 3) := by decide +kernel
theorem dX4_makeBestMove_34 : decode cX4_makeBestMove 34 = .ok (.if_icmp .ge 117, 3) := by decide +kernel
theorem dX4_makeBestMove_37 : decode cX4_makeBestMove 37 = .ok (.aload_n 3, 1) := by decide +kernel
theorem dX4_makeBestMove_38 : decode cX4_makeBestMove 38 = .ok (.getfield 64, 3) := by decide +kernel
theorem dX4_makeBestMove_41 : decode cX4_makeBestMove 41 = .ok (.iload 8, 2) := by decide +kernel
theorem dX4_makeBestMove_43 : decode cX4_makeBestMove 43 = .ok (.iaload, 1) := by decide +kernel
theorem dX4_makeBestMove_44 : decode cX4_makeBestMove 44 = .ok (.istore 9, 2) := by decide +kernel
theorem dX4_makeBestMove_46 : decode cX4_makeBestMove 46 = .ok (.aload_n 0, 1) := by decide +kernel
theorem dX4_makeBestMove_47 : decode cX4_makeBestMove 47 = .ok (.getfield 9, 3) := by decide +kernel
theorem dX4_makeBestMove_50 : decode cX4_makeBestMove 50 = .ok (.iload 9, 2) := by decide +kernel
theorem dX4_makeBestMove_52 : decode cX4_makeBestMove 52 = .ok (.iaload, 1) := by decide +kernel
theorem dX4_makeBestMove_53 : decode cX4_makeBestMove 53 = .ok (.iconst 1, 1) := by decide +kernel
theorem dX4_makeBestMove_54 : decode cX4_makeBestMove 54 = .ok (.iload 8, 2) := by decide +kernel
theorem dX4_makeBestMove_56 : decode cX4_makeBestMove 56 = .ok (.ishl, 1) := by decide +kernel
theorem dX4_makeBestMove_57 : decode cX4_makeBestMove 57 = .ok (.if_icmp .ne 7, 3) := by decide +kernel
theorem dX4_makeBestMove_60 : decode cX4_makeBestMove 60 = .ok (.iconst 1, 1) := by decide +kernel
theorem dX4_makeBestMove_61 : decode cX4_makeBestMove 61 = .ok (.goto 4, 3) := by decide +kernel
theorem dX4_makeBestMove_64 : decode cX4_makeBestMove 64 = .ok (.iconst 0, 1) := by decide +kernel
theorem dX4_makeBestMove_65 : decode cX4_makeBestMove 65 = .ok (.istore 10, 2) := by decide +kernel
theorem dX4_makeBestMove_67 : decode cX4_makeBestMove 67 = .ok (.iload 10, 2) := by decide +kernel
theorem dX4_makeBestMove_69 : decode cX4_makeBestMove 69 = .ok (.ifCond .eq 12, 3) := by decide +kernel
theorem dX4_makeBestMove_72 : decode cX4_makeBestMove 72 = .ok (.aload_n 3, 1) := by decide +kernel
theorem dX4_makeBestMove_73 : decode cX4_makeBestMove 73 = .ok (.getfield 39, 3) := by decide +kernel
theorem dX4_makeBestMove_76 : decode cX4_makeBestMove 76 = .ok (.iconst 1, 1) := by decide +kernel
theorem dX4_makeBestMove_77 : decode cX4_makeBestMove 77 = .ok (.isub, 1) := by decide +kernel
theorem dX4_makeBestMove_78 : decode cX4_makeBestMove 78 = .ok (.goto 7, 3) := by decide +kernel
theorem dX4_makeBestMove_81 : decode cX4_makeBestMove 81 = .ok (.aload_n 3, 1) := by decide +kernel
theorem dX4_makeBestMove_82 : decode cX4_makeBestMove 82 = .ok (.getfield 39, 3) := by decide +kernel
theorem dX4_makeBestMove_85 : decode cX4_makeBestMove 85 = .ok (.istore 11, 2) := by decide +kernel
theorem dX4_makeBestMove_87 : decode cX4_makeBestMove 87 = .ok (.iconst 0, 1) := by decide +kernel
theorem dX4_makeBestMove_88 : decode cX4_makeBestMove 88 = .ok (.istore 12, 2) := by decide +kernel
theorem dX4_makeBestMove_90 : decode cX4_makeBestMove 90 = .ok (.iload 12, 2) := by decide +kernel
theorem dX4_makeBestMove_92 : decode cX4_makeBestMove 92 = .ok (.iload 11, 2) := by decide +kernel
theorem dX4_makeBestMove_94 : decode cX4_makeBestMove 94 = .ok (.if_icmp .gt 51, 3) := by decide +kernel
theorem dX4_makeBestMove_97 : decode cX4_makeBestMove 97 = .ok (.iload 12, 2) := by decide +kernel
theorem dX4_makeBestMove_99 : decode cX4_makeBestMove 99 = .ok (.iload 9, 2) := by decide +kernel
theorem dX4_makeBestMove_101 : decode cX4_makeBestMove 101 = .ok (.if_icmp .ne 6, 3) := by decide +kernel
theorem dX4_makeBestMove_104 : decode cX4_makeBestMove 104 = .ok (.goto 35, 3) := by decide +kernel
theorem dX4_makeBestMove_107 : decode cX4_makeBestMove 107 = .ok (.aload_n 0, 1) := by decide +kernel
theorem dX4_makeBestMove_108 : decode cX4_makeBestMove 108 = .ok (.aload_n 1, 1) := by decide +kernel
theorem dX4_makeBestMove_109 : decode cX4_makeBestMove 109 = .ok (.iload_n 2, 1) := by decide +kernel
theorem dX4_makeBestMove_110 : decode cX4_makeBestMove 110 = .ok (.iload 8, 2) := by decide +kernel
theorem dX4_makeBestMove_112 : decode cX4_makeBestMove 112 = .ok (.iload 12, 2) := by decide +kernel
theorem dX4_makeBestMove_114 : decode cX4_makeBestMove 114 = .ok (.invokevirtual 67, 3) := by decide +kernel
theorem dX4_makeBestMove_117 : decode cX4_makeBestMove 117 = .ok (.lstore 13, 2) := by decide +kernel
theorem dX4_makeBestMove_119 : decode cX4_makeBestMove 119 = .ok (.lload 13, 2) := by decide +kernel
theorem dX4_makeBestMove_121 : decode cX4_makeBestMove 121 = .ok (.lload 4, 2) := by decide +kernel
theorem dX4_makeBestMove_123 : decode cX4_makeBestMove 123 = .ok (.lcmp, 1) := by decide +kernel
theorem dX4_makeBestMove_124 : decode cX4_makeBestMove 124 = .ok (.ifCond .ge 15, 3) := by decide +kernel
theorem dX4_makeBestMove_127 : decode cX4_makeBestMove 127 = .ok (.lload 13, 2) := by decide +kernel
theorem dX4_makeBestMove_129 : decode cX4_makeBestMove 129 = .ok (.lstore 4, 2) := by decide +kernel
theorem dX4_makeBestMove_131 : decode cX4_makeBestMove 131 = .ok (.iload 8, 2) := by decide +kernel
theorem dX4_makeBestMove_133 : decode cX4_makeBestMove 133 = .ok (.istore 6, 2) := by decide +kernel
theorem dX4_makeBestMove_135 : decode cX4_makeBestMove 135 = .ok (.iload 12, 2) := by decide +kernel
theorem dX4_makeBestMove_137 : decode cX4_makeBestMove 137 = .ok (.istore 7, 2) := by decide +kernel
theorem dX4_makeBestMove_139 : decode cX4_makeBestMove 139 = .ok (.iinc 12 1, 3) := by decide +kernel
theorem dX4_makeBestMove_142 : decode cX4_makeBestMove 142 = .ok (.goto (-52), 3) := by decide +kernel
theorem dX4_makeBestMove_145 : decode cX4_makeBestMove 145 = .ok (.iinc 8 1, 3) := by decide +kernel
theorem dX4_makeBestMove_148 : decode cX4_makeBestMove 148 = .ok (.goto (-120), 3) := by decide +kernel
theorem dX4_makeBestMove_151 : decode cX4_makeBestMove 151 = .ok (.iload 6, 2) := by decide +kernel
theorem dX4_makeBestMove_153 : decode cX4_makeBestMove 153 = .ok (.iconst (-1), 1) := by decide +kernel
theorem dX4_makeBestMove_154 : decode cX4_makeBestMove 154 = .ok (.if_icmp .ne 5, 3) := by decide +kernel
theorem dX4_makeBestMove_157 : decode cX4_makeBestMove 157 = .ok (.iconst 0, 1) := by decide +kernel
theorem dX4_makeBestMove_158 : decode cX4_makeBestMove 158 = .ok (.ireturn, 1) := by decide +kernel
theorem dX4_makeBestMove_159 : decode cX4_makeBestMove 159 = .ok (.aload_n 3, 1) := by decide +kernel
theorem dX4_makeBestMove_160 : decode cX4_makeBestMove 160 = .ok (.getfield 64, 3) := by decide +kernel
theorem dX4_makeBestMove_163 : decode cX4_makeBestMove 163 = .ok (.iload 6, 2) := by decide +kernel
theorem dX4_makeBestMove_165 : decode cX4_makeBestMove 165 = .ok (.iload 7, 2) := by decide +kernel
theorem dX4_makeBestMove_167 : decode cX4_makeBestMove 167 = .ok (.iastore, 1) := by decide +kernel
theorem dX4_makeBestMove_168 : decode cX4_makeBestMove 168 = .ok (.aload_n 3, 1) := by decide +kernel
theorem dX4_makeBestMove_169 : decode cX4_makeBestMove 169 = .ok (.invokevirtual 71, 3) := by decide +kernel
theorem dX4_makeBestMove_172 : decode cX4_makeBestMove 172 = .ok (.iconst 1, 1) := by decide +kernel
theorem dX4_makeBestMove_173 : decode cX4_makeBestMove 173 = .ok (.ireturn, 1) := by decide +kernel
theorem dX4_costAfter_0 : decode cX4_costAfter 0 = .ok (.aload_n 1, 1) := by decide +kernel
theorem dX4_costAfter_1 : decode cX4_costAfter 1 = .ok (.getfield 33, 3) := by decide +kernel
theorem dX4_costAfter_4 : decode cX4_costAfter 4 = .ok (.getfield 39, 3) := by decide +kernel
theorem dX4_costAfter_7 : decode cX4_costAfter 7 = .ok (.istore 5, 2) := by decide +kernel
theorem dX4_costAfter_9 : decode cX4_costAfter 9 = .ok (.aload_n 1, 1) := by decide +kernel
theorem dX4_costAfter_10 : decode cX4_costAfter 10 = .ok (.getfield 33, 3) := by decide +kernel
theorem dX4_costAfter_13 : decode cX4_costAfter 13 = .ok (.getfield 64, 3) := by decide +kernel
theorem dX4_costAfter_16 : decode cX4_costAfter 16 = .ok (.iload_n 3, 1) := by decide +kernel
theorem dX4_costAfter_17 : decode cX4_costAfter 17 = .ok (.iaload, 1) := by decide +kernel
theorem dX4_costAfter_18 : decode cX4_costAfter 18 = .ok (.istore 6, 2) := by decide +kernel
theorem dX4_costAfter_20 : decode cX4_costAfter 20 = .ok (.aload_n 0, 1) := by decide +kernel
theorem dX4_costAfter_21 : decode cX4_costAfter 21 = .ok (.getfield 19, 3) := by decide +kernel
theorem dX4_costAfter_24 : decode cX4_costAfter 24 = .ok (.lstore 7, 2) := by decide +kernel
theorem dX4_costAfter_26 : decode cX4_costAfter 26 = .ok (.iconst 0, 1) := by decide +kernel
theorem dX4_costAfter_27 : decode cX4_costAfter 27 = .ok (.istore 9, 2) := by decide +kernel
theorem dX4_costAfter_29 : decode cX4_costAfter 29 = .ok (.iload 9, 2) := by decide +kernel
theorem dX4_costAfter_31 : decode cX4_costAfter 31 = .ok (.iload 5, 2) := by decide +kernel
theorem dX4_costAfter_33 : decode cX4_costAfter 33 = .ok (.if_icmp .ge 38, 3) := by decide +kernel
theorem dX4_costAfter_36 : decode cX4_costAfter 36 = .ok (.iload 9, 2) := by decide +kernel
theorem dX4_costAfter_38 : decode cX4_costAfter 38 = .ok (.iload 6, 2) := by decide +kernel
theorem dX4_costAfter_40 : decode cX4_costAfter 40 = .ok (.if_icmp .eq 25, 3) := by decide +kernel
theorem dX4_costAfter_43 : decode cX4_costAfter 43 = .ok (.iload 9, 2) := by decide +kernel
theorem dX4_costAfter_45 : decode cX4_costAfter 45 = .ok (.iload 4, 2) := by decide +kernel
theorem dX4_costAfter_47 : decode cX4_costAfter 47 = .ok (.if_icmp .eq 18, 3) := by decide +kernel
theorem dX4_costAfter_50 : decode cX4_costAfter 50 = .ok (.iload_n 2, 1) := by decide +kernel
theorem dX4_costAfter_51 : decode cX4_costAfter 51 = .ok (.lload 7, 2) := by decide +kernel
theorem dX4_costAfter_53 : decode cX4_costAfter 53 = .ok (.aload_n 0, 1) := by decide +kernel
theorem dX4_costAfter_54 : decode cX4_costAfter 54 = .ok (.getfield 15, 3) := by decide +kernel
theorem dX4_costAfter_57 : decode cX4_costAfter 57 = .ok (.iload 9, 2) := by decide +kernel
theorem dX4_costAfter_59 : decode cX4_costAfter 59 = .ok (.laload, 1) := by decide +kernel
theorem dX4_costAfter_60 : decode cX4_costAfter 60 = .ok (.invokestatic 74, 3) := by decide +kernel
theorem dX4_costAfter_63 : decode cX4_costAfter 63 = .ok (.lstore 7, 2) := by decide +kernel
theorem dX4_costAfter_65 : decode cX4_costAfter 65 = .ok (.iinc 9 1, 3) := by decide +kernel
theorem dX4_costAfter_68 : decode cX4_costAfter 68 = .ok (.goto (-39), 3) := by decide +kernel
theorem dX4_costAfter_71 : decode cX4_costAfter 71 = .ok (.iload 4, 2) := by decide +kernel
theorem dX4_costAfter_73 : decode cX4_costAfter 73 = .ok (.iload 5, 2) := by decide +kernel
theorem dX4_costAfter_75 : decode cX4_costAfter 75 = .ok (.if_icmp .ge 13, 3) := by decide +kernel
theorem dX4_costAfter_78 : decode cX4_costAfter 78 = .ok (.aload_n 0, 1) := by decide +kernel
theorem dX4_costAfter_79 : decode cX4_costAfter 79 = .ok (.getfield 9, 3) := by decide +kernel
theorem dX4_costAfter_82 : decode cX4_costAfter 82 = .ok (.iload 4, 2) := by decide +kernel
theorem dX4_costAfter_84 : decode cX4_costAfter 84 = .ok (.iaload, 1) := by decide +kernel
theorem dX4_costAfter_85 : decode cX4_costAfter 85 = .ok (.goto 4, 3) := by decide +kernel
theorem dX4_costAfter_88 : decode cX4_costAfter 88 = .ok (.iconst 0, 1) := by decide +kernel
theorem dX4_costAfter_89 : decode cX4_costAfter 89 = .ok (.iconst 1, 1) := by decide +kernel
theorem dX4_costAfter_90 : decode cX4_costAfter 90 = .ok (.iload_n 3, 1) := by decide +kernel
theorem dX4_costAfter_91 : decode cX4_costAfter 91 = .ok (.ishl, 1) := by decide +kernel
theorem dX4_costAfter_92 : decode cX4_costAfter 92 = .ok (.ior, 1) := by decide +kernel
theorem dX4_costAfter_93 : decode cX4_costAfter 93 = .ok (.istore 9, 2) := by decide +kernel
theorem dX4_costAfter_95 : decode cX4_costAfter 95 = .ok (.iload_n 2, 1) := by decide +kernel
theorem dX4_costAfter_96 : decode cX4_costAfter 96 = .ok (.lload 7, 2) := by decide +kernel
theorem dX4_costAfter_98 : decode cX4_costAfter 98 = .ok (.aload_n 1, 1) := by decide +kernel
theorem dX4_costAfter_99 : decode cX4_costAfter 99 = .ok (.iload_n 2, 1) := by decide +kernel
theorem dX4_costAfter_100 : decode cX4_costAfter 100 = .ok (.aload_n 0, 1) := by decide +kernel
theorem dX4_costAfter_101 : decode cX4_costAfter 101 = .ok (.getfield 9, 3) := by decide +kernel
theorem dX4_costAfter_104 : decode cX4_costAfter 104 = .ok (.iload 6, 2) := by decide +kernel
theorem dX4_costAfter_106 : decode cX4_costAfter 106 = .ok (.iaload, 1) := by decide +kernel
theorem dX4_costAfter_107 : decode cX4_costAfter 107 = .ok (.iconst 1, 1) := by decide +kernel
theorem dX4_costAfter_108 : decode cX4_costAfter 108 = .ok (.iload_n 3, 1) := by decide +kernel
theorem dX4_costAfter_109 : decode cX4_costAfter 109 = .ok (.ishl, 1) := by decide +kernel
theorem dX4_costAfter_110 : decode cX4_costAfter 110 = .ok (.iconst (-1), 1) := by decide +kernel
theorem dX4_costAfter_111 : decode cX4_costAfter 111 = .ok (.ixor, 1) := by decide +kernel
theorem dX4_costAfter_112 : decode cX4_costAfter 112 = .ok (.iand, 1) := by decide +kernel
theorem dX4_costAfter_113 : decode cX4_costAfter 113 = .ok (.invokestatic 49, 3) := by decide +kernel
theorem dX4_costAfter_116 : decode cX4_costAfter 116 = .ok (.invokestatic 74, 3) := by decide +kernel
theorem dX4_costAfter_119 : decode cX4_costAfter 119 = .ok (.lstore 7, 2) := by decide +kernel
theorem dX4_costAfter_121 : decode cX4_costAfter 121 = .ok (.iload_n 2, 1) := by decide +kernel
theorem dX4_costAfter_122 : decode cX4_costAfter 122 = .ok (.lload 7, 2) := by decide +kernel
theorem dX4_costAfter_124 : decode cX4_costAfter 124 = .ok (.aload_n 1, 1) := by decide +kernel
theorem dX4_costAfter_125 : decode cX4_costAfter 125 = .ok (.iload_n 2, 1) := by decide +kernel
theorem dX4_costAfter_126 : decode cX4_costAfter 126 = .ok (.iload 9, 2) := by decide +kernel
theorem dX4_costAfter_128 : decode cX4_costAfter 128 = .ok (.invokestatic 49, 3) := by decide +kernel
theorem dX4_costAfter_131 : decode cX4_costAfter 131 = .ok (.invokestatic 74, 3) := by decide +kernel
theorem dX4_costAfter_134 : decode cX4_costAfter 134 = .ok (.lreturn, 1) := by decide +kernel
theorem dX5_init_0 : decode cX5_init 0 = .ok (.aload_n 0, 1) := by decide +kernel
theorem dX5_init_1 : decode cX5_init 1 = .ok (.invokespecial 3, 3) := by decide +kernel
theorem dX5_init_4 : decode cX5_init 4 = .ok (.aload_n 0, 1) := by decide +kernel
theorem dX5_init_5 : decode cX5_init 5 = .ok (.sipush 169, 3) := by decide +kernel
theorem dX5_init_8 : decode cX5_init 8 = .ok (.newarray .long, 2) := by decide +kernel
theorem dX5_init_10 : decode cX5_init 10 = .ok (.putfield 11, 3) := by decide +kernel
theorem dX5_init_13 : decode cX5_init 13 = .ok (.aload_n 0, 1) := by decide +kernel
theorem dX5_init_14 : decode cX5_init 14 = .ok (.bipush 13, 2) := by decide +kernel
theorem dX5_init_16 : decode cX5_init 16 = .ok (.newarray .long, 2) := by decide +kernel
theorem dX5_init_18 : decode cX5_init 18 = .ok (.putfield 15, 3) := by decide +kernel
theorem dX5_init_21 : decode cX5_init 21 = .ok (.iconst 0, 1) := by decide +kernel
theorem dX5_init_22 : decode cX5_init 22 = .ok (.istore_n 1, 1) := by decide +kernel
theorem dX5_init_23 : decode cX5_init 23 = .ok (.iload_n 1, 1) := by decide +kernel
theorem dX5_init_24 : decode cX5_init 24 = .ok (.bipush 13, 2) := by decide +kernel
theorem dX5_init_26 : decode cX5_init 26 = .ok (.if_icmp .ge 19, 3) := by decide +kernel
theorem dX5_init_29 : decode cX5_init 29 = .ok (.aload_n 0, 1) := by decide +kernel
theorem dX5_init_30 : decode cX5_init 30 = .ok (.getfield 11, 3) := by decide +kernel
theorem dX5_init_33 : decode cX5_init 33 = .ok (.iload_n 1, 1) := by decide +kernel
theorem dX5_init_34 : decode cX5_init 34 = .ok (.bipush 13, 2) := by decide +kernel
theorem dX5_init_36 : decode cX5_init 36 = .ok (.imul, 1) := by decide +kernel
theorem dX5_init_37 : decode cX5_init 37 = .ok (.lconst 1, 1) := by decide +kernel
theorem dX5_init_38 : decode cX5_init 38 = .ok (.lastore, 1) := by decide +kernel
theorem dX5_init_39 : decode cX5_init 39 = .ok (.iinc 1 1, 3) := by decide +kernel
theorem dX5_init_42 : decode cX5_init 42 = .ok (.goto (-19), 3) := by decide +kernel
theorem dX5_init_45 : decode cX5_init 45 = .ok (.iconst 1, 1) := by decide +kernel
theorem dX5_init_46 : decode cX5_init 46 = .ok (.istore_n 1, 1) := by decide +kernel
theorem dX5_init_47 : decode cX5_init 47 = .ok (.iload_n 1, 1) := by decide +kernel
theorem dX5_init_48 : decode cX5_init 48 = .ok (.bipush 13, 2) := by decide +kernel
theorem dX5_init_50 : decode cX5_init 50 = .ok (.if_icmp .ge 68, 3) := by decide +kernel
theorem dX5_init_53 : decode cX5_init 53 = .ok (.iconst 0, 1) := by decide +kernel
theorem dX5_init_54 : decode cX5_init 54 = .ok (.istore_n 2, 1) := by decide +kernel
theorem dX5_init_55 : decode cX5_init 55 = .ok (.iload_n 2, 1) := by decide +kernel
theorem dX5_init_56 : decode cX5_init 56 = .ok (.iload_n 1, 1) := by decide +kernel
theorem dX5_init_57 : decode cX5_init 57 = .ok (.iadd, 1) := by decide +kernel
theorem dX5_init_58 : decode cX5_init 58 = .ok (.bipush 13, 2) := by decide +kernel
theorem dX5_init_60 : decode cX5_init 60 = .ok (.if_icmp .ge 52, 3) := by decide +kernel
theorem dX5_init_63 : decode cX5_init 63 = .ok (.aload_n 0, 1) := by decide +kernel
theorem dX5_init_64 : decode cX5_init 64 = .ok (.getfield 11, 3) := by decide +kernel
theorem dX5_init_67 : decode cX5_init 67 = .ok (.iload_n 2, 1) := by decide +kernel
theorem dX5_init_68 : decode cX5_init 68 = .ok (.bipush 13, 2) := by decide +kernel
theorem dX5_init_70 : decode cX5_init 70 = .ok (.imul, 1) := by decide +kernel
theorem dX5_init_71 : decode cX5_init 71 = .ok (.iload_n 1, 1) := by decide +kernel
theorem dX5_init_72 : decode cX5_init 72 = .ok (.iadd, 1) := by decide +kernel
theorem dX5_init_73 : decode cX5_init 73 = .ok (.iload_n 2, 1) := by decide +kernel
theorem dX5_init_74 : decode cX5_init 74 = .ok (.i2l, 1) := by decide +kernel
theorem dX5_init_75 : decode cX5_init 75 = .ok (.aload_n 0, 1) := by decide +kernel
theorem dX5_init_76 : decode cX5_init 76 = .ok (.getfield 11, 3) := by decide +kernel
theorem dX5_init_79 : decode cX5_init 79 = .ok (.iload_n 2, 1) := by decide +kernel
theorem dX5_init_80 : decode cX5_init 80 = .ok (.bipush 13, 2) := by decide +kernel
theorem dX5_init_82 : decode cX5_init 82 = .ok (.imul, 1) := by decide +kernel
theorem dX5_init_83 : decode cX5_init 83 = .ok (.iload_n 1, 1) := by decide +kernel
theorem dX5_init_84 : decode cX5_init 84 = .ok (.iadd, 1) := by decide +kernel
theorem dX5_init_85 : decode cX5_init 85 = .ok (.iconst 1, 1) := by decide +kernel
theorem dX5_init_86 : decode cX5_init 86 = .ok (.isub, 1) := by decide +kernel
theorem dX5_init_87 : decode cX5_init 87 = .ok (.laload, 1) := by decide +kernel
theorem dX5_init_88 : decode cX5_init 88 = .ok (.lmul, 1) := by decide +kernel
theorem dX5_init_89 : decode cX5_init 89 = .ok (.aload_n 0, 1) := by decide +kernel
theorem dX5_init_90 : decode cX5_init 90 = .ok (.getfield 11, 3) := by decide +kernel
theorem dX5_init_93 : decode cX5_init 93 = .ok (.iload_n 2, 1) := by decide +kernel
theorem dX5_init_94 : decode cX5_init 94 = .ok (.iconst 1, 1) := by decide +kernel
theorem dX5_init_95 : decode cX5_init 95 = .ok (.iadd, 1) := by decide +kernel
theorem dX5_init_96 : decode cX5_init 96 = .ok (.bipush 13, 2) := by decide +kernel
theorem dX5_init_98 : decode cX5_init 98 = .ok (.imul, 1) := by decide +kernel
theorem dX5_init_99 : decode cX5_init 99 = .ok (.iload_n 1, 1) := by decide +kernel
theorem dX5_init_100 : decode cX5_init 100 = .ok (.iadd, 1) := by decide +kernel
theorem dX5_init_101 : decode cX5_init 101 = .ok (.iconst 1, 1) := by decide +kernel
theorem dX5_init_102 : decode cX5_init 102 = .ok (.isub, 1) := by decide +kernel
theorem dX5_init_103 : decode cX5_init 103 = .ok (.laload, 1) := by decide +kernel
theorem dX5_init_104 : decode cX5_init 104 = .ok (.ladd, 1) := by decide +kernel
theorem dX5_init_105 : decode cX5_init 105 = .ok (.lastore, 1) := by decide +kernel
theorem dX5_init_106 : decode cX5_init 106 = .ok (.iinc 2 1, 3) := by decide +kernel
theorem dX5_init_109 : decode cX5_init 109 = .ok (.goto (-54), 3) := by decide +kernel
theorem dX5_init_112 : decode cX5_init 112 = .ok (.iinc 1 1, 3) := by decide +kernel
theorem dX5_init_115 : decode cX5_init 115 = .ok (.goto (-68), 3) := by decide +kernel
theorem dX5_init_118 : decode cX5_init 118 = .ok (.return_, 1) := by decide +kernel
theorem dX5_allOf_0 : decode cX5_allOf 0 = .ok (.aload_n 0, 1) := by decide +kernel
theorem dX5_allOf_1 : decode cX5_allOf 1 = .ok (.getfield 11, 3) := by decide +kernel
theorem dX5_allOf_4 : decode cX5_allOf 4 = .ok (.iload_n 1, 1) := by decide +kernel
theorem dX5_allOf_5 : decode cX5_allOf 5 = .ok (.laload, 1) := by decide +kernel
theorem dX5_allOf_6 : decode cX5_allOf 6 = .ok (.lreturn, 1) := by decide +kernel
theorem dX5_withHeaps_0 : decode cX5_withHeaps 0 = .ok (.aload_n 0, 1) := by decide +kernel
theorem dX5_withHeaps_1 : decode cX5_withHeaps 1 = .ok (.getfield 15, 3) := by decide +kernel
theorem dX5_withHeaps_4 : decode cX5_withHeaps 4 = .ok (.lconst 0, 1) := by decide +kernel
theorem dX5_withHeaps_5 : decode cX5_withHeaps 5 = .ok (.invokestatic 18, 3) := by decide +kernel
theorem dX5_withHeaps_8 : decode cX5_withHeaps 8 = .ok (.aload_n 0, 1) := by decide +kernel
theorem dX5_withHeaps_9 : decode cX5_withHeaps 9 = .ok (.getfield 15, 3) := by decide +kernel
theorem dX5_withHeaps_12 : decode cX5_withHeaps 12 = .ok (.iconst 0, 1) := by decide +kernel
theorem dX5_withHeaps_13 : decode cX5_withHeaps 13 = .ok (.lconst 1, 1) := by decide +kernel
theorem dX5_withHeaps_14 : decode cX5_withHeaps 14 = .ok (.lastore, 1) := by decide +kernel
theorem dX5_withHeaps_15 : decode cX5_withHeaps 15 = .ok (.iconst 1, 1) := by decide +kernel
theorem dX5_withHeaps_16 : decode cX5_withHeaps 16 = .ok (.istore_n 3, 1) := by decide +kernel
theorem dX5_withHeaps_17 : decode cX5_withHeaps 17 = .ok (.iload_n 3, 1) := by decide +kernel
theorem dX5_withHeaps_18 : decode cX5_withHeaps 18 = .ok (.iload_n 1, 1) := by decide +kernel
theorem dX5_withHeaps_19 : decode cX5_withHeaps 19 = .ok (.if_icmp .gt 59, 3) := by decide +kernel
theorem dX5_withHeaps_22 : decode cX5_withHeaps 22 = .ok (.iload_n 3, 1) := by decide +kernel
theorem dX5_withHeaps_23 : decode cX5_withHeaps 23 = .ok (.istore 4, 2) := by decide +kernel
theorem dX5_withHeaps_25 : decode cX5_withHeaps 25 = .ok (.iload 4, 2) := by decide +kernel
theorem dX5_withHeaps_27 : decode cX5_withHeaps 27 = .ok (.iconst 1, 1) := by decide +kernel
theorem dX5_withHeaps_28 : decode cX5_withHeaps 28 = .ok (.if_icmp .lt 37, 3) := by decide +kernel
theorem dX5_withHeaps_31 : decode cX5_withHeaps 31 = .ok (.aload_n 0, 1) := by decide +kernel
theorem dX5_withHeaps_32 : decode cX5_withHeaps 32 = .ok (.getfield 15, 3) := by decide +kernel
theorem dX5_withHeaps_35 : decode cX5_withHeaps 35 = .ok (.iload 4, 2) := by decide +kernel
theorem dX5_withHeaps_37 : decode cX5_withHeaps 37 = .ok (.iload 4, 2) := by decide +kernel
theorem dX5_withHeaps_39 : decode cX5_withHeaps 39 = .ok (.i2l, 1) := by decide +kernel
theorem dX5_withHeaps_40 : decode cX5_withHeaps 40 = .ok (.aload_n 0, 1) := by decide +kernel
theorem dX5_withHeaps_41 : decode cX5_withHeaps 41 = .ok (.getfield 15, 3) := by decide +kernel
theorem dX5_withHeaps_44 : decode cX5_withHeaps 44 = .ok (.iload 4, 2) := by decide +kernel
theorem dX5_withHeaps_46 : decode cX5_withHeaps 46 = .ok (.laload, 1) := by decide +kernel
theorem dX5_withHeaps_47 : decode cX5_withHeaps 47 = .ok (.lmul, 1) := by decide +kernel
theorem dX5_withHeaps_48 : decode cX5_withHeaps 48 = .ok (.aload_n 0, 1) := by decide +kernel
theorem dX5_withHeaps_49 : decode cX5_withHeaps 49 = .ok (.getfield 15, 3) := by decide +kernel
theorem dX5_withHeaps_52 : decode cX5_withHeaps 52 = .ok (.iload 4, 2) := by decide +kernel
theorem dX5_withHeaps_54 : decode cX5_withHeaps 54 = .ok (.iconst 1, 1) := by decide +kernel
theorem dX5_withHeaps_55 : decode cX5_withHeaps 55 = .ok (.isub, 1) := by decide +kernel
theorem dX5_withHeaps_56 : decode cX5_withHeaps 56 = .ok (.laload, 1) := by decide +kernel
theorem dX5_withHeaps_57 : decode cX5_withHeaps 57 = .ok (.ladd, 1) := by decide +kernel
theorem dX5_withHeaps_58 : decode cX5_withHeaps 58 = .ok (.lastore, 1) := by decide +kernel
theorem dX5_withHeaps_59 : decode cX5_withHeaps 59 = .ok (.iinc 4 (-1), 3) := by decide +kernel
theorem dX5_withHeaps_62 : decode cX5_withHeaps 62 = .ok (.goto (-37), 3) := by decide +kernel
theorem dX5_withHeaps_65 : decode cX5_withHeaps 65 = .ok (.aload_n 0, 1) := by decide +kernel
theorem dX5_withHeaps_66 : decode cX5_withHeaps 66 = .ok (.getfield 15, 3) := by decide +kernel
theorem dX5_withHeaps_69 : decode cX5_withHeaps 69 = .ok (.iconst 0, 1) := by decide +kernel
theorem dX5_withHeaps_70 : decode cX5_withHeaps 70 = .ok (.lconst 0, 1) := by decide +kernel
theorem dX5_withHeaps_71 : decode cX5_withHeaps 71 = .ok (.lastore, 1) := by decide +kernel
theorem dX5_withHeaps_72 : decode cX5_withHeaps 72 = .ok (.iinc 3 1, 3) := by decide +kernel
theorem dX5_withHeaps_75 : decode cX5_withHeaps 75 = .ok (.goto (-58), 3) := by decide +kernel
theorem dX5_withHeaps_78 : decode cX5_withHeaps 78 = .ok (.aload_n 0, 1) := by decide +kernel
theorem dX5_withHeaps_79 : decode cX5_withHeaps 79 = .ok (.getfield 15, 3) := by decide +kernel
theorem dX5_withHeaps_82 : decode cX5_withHeaps 82 = .ok (.iload_n 2, 1) := by decide +kernel
theorem dX5_withHeaps_83 : decode cX5_withHeaps 83 = .ok (.laload, 1) := by decide +kernel
theorem dX5_withHeaps_84 : decode cX5_withHeaps 84 = .ok (.lreturn, 1) := by decide +kernel
theorem dX5_rankOf_0 : decode cX5_rankOf 0 = .ok (.lconst 0, 1) := by decide +kernel
theorem dX5_rankOf_1 : decode cX5_rankOf 1 = .ok (.lstore_n 2, 1) := by decide +kernel
theorem dX5_rankOf_2 : decode cX5_rankOf 2 = .ok (.iconst 0, 1) := by decide +kernel
theorem dX5_rankOf_3 : decode cX5_rankOf 3 = .ok (.istore 4, 2) := by decide +kernel
theorem dX5_rankOf_5 : decode cX5_rankOf 5 = .ok (.iconst 0, 1) := by decide +kernel
theorem dX5_rankOf_6 : decode cX5_rankOf 6 = .ok (.istore 5, 2) := by decide +kernel
theorem dX5_rankOf_8 : decode cX5_rankOf 8 = .ok (.iload 5, 2) := by decide +kernel
theorem dX5_rankOf_10 : decode cX5_rankOf 10 = .ok (.aload_n 1, 1) := by decide +kernel
theorem dX5_rankOf_11 : decode cX5_rankOf 11 = .ok (.getfield 24, 3) := by decide +kernel
theorem dX5_rankOf_14 : decode cX5_rankOf 14 = .ok (.if_icmp .ge 56, 3) := by decide +kernel
theorem dX5_rankOf_17 : decode cX5_rankOf 17 = .ok (.aload_n 1, 1) := by decide +kernel
theorem dX5_rankOf_18 : decode cX5_rankOf 18 = .ok (.getfield 30, 3) := by decide +kernel
theorem dX5_rankOf_21 : decode cX5_rankOf 21 = .ok (.iload 5, 2) := by decide +kernel
theorem dX5_rankOf_23 : decode cX5_rankOf 23 = .ok (.iaload, 1) := by decide +kernel
theorem dX5_rankOf_24 : decode cX5_rankOf 24 = .ok (.istore 6, 2) := by decide +kernel
theorem dX5_rankOf_26 : decode cX5_rankOf 26 = .ok (.lload_n 2, 1) := by decide +kernel
theorem dX5_rankOf_27 : decode cX5_rankOf 27 = .ok (.iload 6, 2) := by decide +kernel
theorem dX5_rankOf_29 : decode cX5_rankOf 29 = .ok (.i2l, 1) := by decide +kernel
theorem dX5_rankOf_30 : decode cX5_rankOf 30 = .ok (.aload_n 0, 1) := by decide +kernel
theorem dX5_rankOf_31 : decode cX5_rankOf 31 = .ok (.getfield 11, 3) := by decide +kernel
theorem dX5_rankOf_34 : decode cX5_rankOf 34 = .ok (.iload 4, 2) := by decide +kernel
theorem dX5_rankOf_36 : decode cX5_rankOf 36 = .ok (.bipush 13, 2) := by decide +kernel
theorem dX5_rankOf_38 : decode cX5_rankOf 38 = .ok (.imul, 1) := by decide +kernel
theorem dX5_rankOf_39 : decode cX5_rankOf 39 = .ok (.aload_n 1, 1) := by decide +kernel
theorem dX5_rankOf_40 : decode cX5_rankOf 40 = .ok (.getfield 24, 3) := by decide +kernel
theorem dX5_rankOf_43 : decode cX5_rankOf 43 = .ok (.iadd, 1) := by decide +kernel
theorem dX5_rankOf_44 : decode cX5_rankOf 44 = .ok (.iconst 1, 1) := by decide +kernel
theorem dX5_rankOf_45 : decode cX5_rankOf 45 = .ok (.isub, 1) := by decide +kernel
theorem dX5_rankOf_46 : decode cX5_rankOf 46 = .ok (.iload 5, 2) := by decide +kernel
theorem dX5_rankOf_48 : decode cX5_rankOf 48 = .ok (.isub, 1) := by decide +kernel
theorem dX5_rankOf_49 : decode cX5_rankOf 49 = .ok (.laload, 1) := by decide +kernel
theorem dX5_rankOf_50 : decode cX5_rankOf 50 = .ok (.lmul, 1) := by decide +kernel
theorem dX5_rankOf_51 : decode cX5_rankOf 51 = .ok (.ladd, 1) := by decide +kernel
theorem dX5_rankOf_52 : decode cX5_rankOf 52 = .ok (.lstore_n 2, 1) := by decide +kernel
theorem dX5_rankOf_53 : decode cX5_rankOf 53 = .ok (.iload 4, 2) := by decide +kernel
theorem dX5_rankOf_55 : decode cX5_rankOf 55 = .ok (.iload 6, 2) := by decide +kernel
theorem dX5_rankOf_57 : decode cX5_rankOf 57 = .ok (.iconst 1, 1) := by decide +kernel
theorem dX5_rankOf_58 : decode cX5_rankOf 58 = .ok (.iadd, 1) := by decide +kernel
theorem dX5_rankOf_59 : decode cX5_rankOf 59 = .ok (.invokestatic 34, 3) := by decide +kernel
theorem dX5_rankOf_62 : decode cX5_rankOf 62 = .ok (.istore 4, 2) := by decide +kernel
theorem dX5_rankOf_64 : decode cX5_rankOf 64 = .ok (.iinc 5 1, 3) := by decide +kernel
theorem dX5_rankOf_67 : decode cX5_rankOf 67 = .ok (.goto (-59), 3) := by decide +kernel
theorem dX5_rankOf_70 : decode cX5_rankOf 70 = .ok (.lload_n 2, 1) := by decide +kernel
theorem dX5_rankOf_71 : decode cX5_rankOf 71 = .ok (.lreturn, 1) := by decide +kernel
theorem dX5_unrank_0 : decode cX5_unrank 0 = .ok (.lload_n 1, 1) := by decide +kernel
theorem dX5_unrank_1 : decode cX5_unrank 1 = .ok (.lstore 4, 2) := by decide +kernel
theorem dX5_unrank_3 : decode cX5_unrank 3 = .ok (.iconst 0, 1) := by decide +kernel
theorem dX5_unrank_4 : decode cX5_unrank 4 = .ok (.istore 6, 2) := by decide +kernel
theorem dX5_unrank_6 : decode cX5_unrank 6 = .ok (.iconst 0, 1) := by decide +kernel
theorem dX5_unrank_7 : decode cX5_unrank 7 = .ok (.istore 7, 2) := by decide +kernel
theorem dX5_unrank_9 : decode cX5_unrank 9 = .ok (.iload 7, 2) := by decide +kernel
theorem dX5_unrank_11 : decode cX5_unrank 11 = .ok (.aload_n 3, 1) := by decide +kernel
theorem dX5_unrank_12 : decode cX5_unrank 12 = .ok (.getfield 24, 3) := by decide +kernel
theorem dX5_unrank_15 : decode cX5_unrank 15 = .ok (.if_icmp .ge 82, 3) := by decide +kernel
theorem dX5_unrank_18 : decode cX5_unrank 18 = .ok (.aload_n 0, 1) := by decide +kernel
theorem dX5_unrank_19 : decode cX5_unrank 19 = .ok (.getfield 11, 3) := by decide +kernel
theorem dX5_unrank_22 : decode cX5_unrank 22 = .ok (.iload 6, 2) := by decide +kernel
theorem dX5_unrank_24 : decode cX5_unrank 24 = .ok (.bipush 13, 2) := by decide +kernel
theorem dX5_unrank_26 : decode cX5_unrank 26 = .ok (.imul, 1) := by decide +kernel
theorem dX5_unrank_27 : decode cX5_unrank 27 = .ok (.aload_n 3, 1) := by decide +kernel
theorem dX5_unrank_28 : decode cX5_unrank 28 = .ok (.getfield 24, 3) := by decide +kernel
theorem dX5_unrank_31 : decode cX5_unrank 31 = .ok (.iadd, 1) := by decide +kernel
theorem dX5_unrank_32 : decode cX5_unrank 32 = .ok (.iconst 1, 1) := by decide +kernel
theorem dX5_unrank_33 : decode cX5_unrank 33 = .ok (.isub, 1) := by decide +kernel
theorem dX5_unrank_34 : decode cX5_unrank 34 = .ok (.iload 7, 2) := by decide +kernel
theorem dX5_unrank_36 : decode cX5_unrank 36 = .ok (.isub, 1) := by decide +kernel
theorem dX5_unrank_37 : decode cX5_unrank 37 = .ok (.laload, 1) := by decide +kernel
theorem dX5_unrank_38 : decode cX5_unrank 38 = .ok (.lstore 8, 2) := by decide +kernel
theorem dX5_unrank_40 : decode cX5_unrank 40 = .ok (.iconst 0, 1) := by decide +kernel
theorem dX5_unrank_41 : decode cX5_unrank 41 = .ok (.istore 10, 2) := by decide +kernel
theorem dX5_unrank_43 : decode cX5_unrank 43 = .ok (.iload 10, 2) := by decide +kernel
theorem dX5_unrank_45 : decode cX5_unrank 45 = .ok (.iload 6, 2) := by decide +kernel
theorem dX5_unrank_47 : decode cX5_unrank 47 = .ok (.if_icmp .ge 24, 3) := by decide +kernel
theorem dX5_unrank_50 : decode cX5_unrank 50 = .ok (.lload 4, 2) := by decide +kernel
theorem dX5_unrank_52 : decode cX5_unrank 52 = .ok (.lload 8, 2) := by decide +kernel
theorem dX5_unrank_54 : decode cX5_unrank 54 = .ok (.lcmp, 1) := by decide +kernel
theorem dX5_unrank_55 : decode cX5_unrank 55 = .ok (.ifCond .lt 16, 3) := by decide +kernel
theorem dX5_unrank_58 : decode cX5_unrank 58 = .ok (.lload 4, 2) := by decide +kernel
theorem dX5_unrank_60 : decode cX5_unrank 60 = .ok (.lload 8, 2) := by decide +kernel
theorem dX5_unrank_62 : decode cX5_unrank 62 = .ok (.lsub, 1) := by decide +kernel
theorem dX5_unrank_63 : decode cX5_unrank 63 = .ok (.lstore 4, 2) := by decide +kernel
theorem dX5_unrank_65 : decode cX5_unrank 65 = .ok (.iinc 10 1, 3) := by decide +kernel
theorem dX5_unrank_68 : decode cX5_unrank 68 = .ok (.goto (-25), 3) := by decide +kernel
theorem dX5_unrank_71 : decode cX5_unrank 71 = .ok (.aload_n 3, 1) := by decide +kernel
theorem dX5_unrank_72 : decode cX5_unrank 72 = .ok (.getfield 30, 3) := by decide +kernel
theorem dX5_unrank_75 : decode cX5_unrank 75 = .ok (.iload 7, 2) := by decide +kernel
theorem dX5_unrank_77 : decode cX5_unrank 77 = .ok (.iload 10, 2) := by decide +kernel
theorem dX5_unrank_79 : decode cX5_unrank 79 = .ok (.iastore, 1) := by decide +kernel
theorem dX5_unrank_80 : decode cX5_unrank 80 = .ok (.iload 6, 2) := by decide +kernel
theorem dX5_unrank_82 : decode cX5_unrank 82 = .ok (.iload 10, 2) := by decide +kernel
theorem dX5_unrank_84 : decode cX5_unrank 84 = .ok (.iconst 1, 1) := by decide +kernel
theorem dX5_unrank_85 : decode cX5_unrank 85 = .ok (.iadd, 1) := by decide +kernel
theorem dX5_unrank_86 : decode cX5_unrank 86 = .ok (.invokestatic 34, 3) := by decide +kernel
theorem dX5_unrank_89 : decode cX5_unrank 89 = .ok (.istore 6, 2) := by decide +kernel
theorem dX5_unrank_91 : decode cX5_unrank 91 = .ok (.iinc 7 1, 3) := by decide +kernel
theorem dX5_unrank_94 : decode cX5_unrank 94 = .ok (.goto (-85), 3) := by decide +kernel
theorem dX5_unrank_97 : decode cX5_unrank 97 = .ok (.aload_n 3, 1) := by decide +kernel
theorem dX5_unrank_98 : decode cX5_unrank 98 = .ok (.iload 6, 2) := by decide +kernel
theorem dX5_unrank_100 : decode cX5_unrank 100 = .ok (.putfield 40, 3) := by decide +kernel
theorem dX5_unrank_103 : decode cX5_unrank 103 = .ok (.return_, 1) := by decide +kernel
theorem dX6_init_0 : decode cX6_init 0 = .ok (.aload_n 0, 1) := by decide +kernel
theorem dX6_init_1 : decode cX6_init 1 = .ok (.invokespecial 3, 3) := by decide +kernel
theorem dX6_init_4 : decode cX6_init 4 = .ok (.aload_n 0, 1) := by decide +kernel
theorem dX6_init_5 : decode cX6_init 5 = .ok (.iconst 0, 1) := by decide +kernel
theorem dX6_init_6 : decode cX6_init 6 = .ok (.putfield 9, 3) := by decide +kernel
theorem dX6_init_9 : decode cX6_init 9 = .ok (.aload_n 0, 1) := by decide +kernel
theorem dX6_init_10 : decode cX6_init 10 = .ok (.iconst 0, 1) := by decide +kernel
theorem dX6_init_11 : decode cX6_init 11 = .ok (.putfield 15, 3) := by decide +kernel
theorem dX6_init_14 : decode cX6_init 14 = .ok (.aload_n 0, 1) := by decide +kernel
theorem dX6_init_15 : decode cX6_init 15 = .ok (.bipush 12, 2) := by decide +kernel
theorem dX6_init_17 : decode cX6_init 17 = .ok (.newarray .int, 2) := by decide +kernel
theorem dX6_init_19 : decode cX6_init 19 = .ok (.putfield 18, 3) := by decide +kernel
theorem dX6_init_22 : decode cX6_init 22 = .ok (.aload_n 0, 1) := by decide +kernel
theorem dX6_init_23 : decode cX6_init 23 = .ok (.bipush 13, 2) := by decide +kernel
theorem dX6_init_25 : decode cX6_init 25 = .ok (.newarray .int, 2) := by decide +kernel
theorem dX6_init_27 : decode cX6_init 27 = .ok (.putfield 22, 3) := by decide +kernel
theorem dX6_init_30 : decode cX6_init 30 = .ok (.return_, 1) := by decide +kernel
theorem dX6_copyFrom_0 : decode cX6_copyFrom 0 = .ok (.aload_n 0, 1) := by decide +kernel
theorem dX6_copyFrom_1 : decode cX6_copyFrom 1 = .ok (.aload_n 1, 1) := by decide +kernel
theorem dX6_copyFrom_2 : decode cX6_copyFrom 2 = .ok (.getfield 9, 3) := by decide +kernel
theorem dX6_copyFrom_5 : decode cX6_copyFrom 5 = .ok (.putfield 9, 3) := by decide +kernel
theorem dX6_copyFrom_8 : decode cX6_copyFrom 8 = .ok (.aload_n 0, 1) := by decide +kernel
theorem dX6_copyFrom_9 : decode cX6_copyFrom 9 = .ok (.aload_n 1, 1) := by decide +kernel
theorem dX6_copyFrom_10 : decode cX6_copyFrom 10 = .ok (.getfield 15, 3) := by decide +kernel
theorem dX6_copyFrom_13 : decode cX6_copyFrom 13 = .ok (.putfield 15, 3) := by decide +kernel
theorem dX6_copyFrom_16 : decode cX6_copyFrom 16 = .ok (.aload_n 1, 1) := by decide +kernel
theorem dX6_copyFrom_17 : decode cX6_copyFrom 17 = .ok (.getfield 18, 3) := by decide +kernel
theorem dX6_copyFrom_20 : decode cX6_copyFrom 20 = .ok (.iconst 0, 1) := by decide +kernel
theorem dX6_copyFrom_21 : decode cX6_copyFrom 21 = .ok (.aload_n 0, 1) := by decide +kernel
theorem dX6_copyFrom_22 : decode cX6_copyFrom 22 = .ok (.getfield 18, 3) := by decide +kernel
theorem dX6_copyFrom_25 : decode cX6_copyFrom 25 = .ok (.iconst 0, 1) := by decide +kernel
theorem dX6_copyFrom_26 : decode cX6_copyFrom 26 = .ok (.bipush 12, 2) := by decide +kernel
theorem dX6_copyFrom_28 : decode cX6_copyFrom 28 = .ok (.invokestatic 25, 3) := by decide +kernel
theorem dX6_copyFrom_31 : decode cX6_copyFrom 31 = .ok (.return_, 1) := by decide +kernel
theorem dX6_allInOne_0 : decode cX6_allInOne 0 = .ok (.aload_n 0, 1) := by decide +kernel
theorem dX6_allInOne_1 : decode cX6_allInOne 1 = .ok (.iload_n 1, 1) := by decide +kernel
theorem dX6_allInOne_2 : decode cX6_allInOne 2 = .ok (.putfield 9, 3) := by decide +kernel
theorem dX6_allInOne_5 : decode cX6_allInOne 5 = .ok (.aload_n 0, 1) := by decide +kernel
theorem dX6_allInOne_6 : decode cX6_allInOne 6 = .ok (.iconst 1, 1) := by decide +kernel
theorem dX6_allInOne_7 : decode cX6_allInOne 7 = .ok (.putfield 15, 3) := by decide +kernel
theorem dX6_allInOne_10 : decode cX6_allInOne 10 = .ok (.aload_n 0, 1) := by decide +kernel
theorem dX6_allInOne_11 : decode cX6_allInOne 11 = .ok (.getfield 18, 3) := by decide +kernel
theorem dX6_allInOne_14 : decode cX6_allInOne 14 = .ok (.iconst 0, 1) := by decide +kernel
theorem dX6_allInOne_15 : decode cX6_allInOne 15 = .ok (.invokestatic 31, 3) := by decide +kernel
theorem dX6_allInOne_18 : decode cX6_allInOne 18 = .ok (.return_, 1) := by decide +kernel
theorem dX6_renumber_0 : decode cX6_renumber 0 = .ok (.aload_n 0, 1) := by decide +kernel
theorem dX6_renumber_1 : decode cX6_renumber 1 = .ok (.getfield 22, 3) := by decide +kernel
theorem dX6_renumber_4 : decode cX6_renumber 4 = .ok (.iconst (-1), 1) := by decide +kernel
theorem dX6_renumber_5 : decode cX6_renumber 5 = .ok (.invokestatic 31, 3) := by decide +kernel
theorem dX6_renumber_8 : decode cX6_renumber 8 = .ok (.aload_n 0, 1) := by decide +kernel
theorem dX6_renumber_9 : decode cX6_renumber 9 = .ok (.iconst 0, 1) := by decide +kernel
theorem dX6_renumber_10 : decode cX6_renumber 10 = .ok (.putfield 15, 3) := by decide +kernel
theorem dX6_renumber_13 : decode cX6_renumber 13 = .ok (.iconst 0, 1) := by decide +kernel
theorem dX6_renumber_14 : decode cX6_renumber 14 = .ok (.istore_n 1, 1) := by decide +kernel
theorem dX6_renumber_15 : decode cX6_renumber 15 = .ok (.iload_n 1, 1) := by decide +kernel
theorem dX6_renumber_16 : decode cX6_renumber 16 = .ok (.aload_n 0, 1) := by decide +kernel
theorem dX6_renumber_17 : decode cX6_renumber 17 = .ok (.getfield 9, 3) := by decide +kernel
theorem dX6_renumber_20 : decode cX6_renumber 20 = .ok (.if_icmp .ge 74, 3) := by decide +kernel
theorem dX6_renumber_23 : decode cX6_renumber 23 = .ok (.aload_n 0, 1) := by decide +kernel
theorem dX6_renumber_24 : decode cX6_renumber 24 = .ok (.getfield 18, 3) := by decide +kernel
theorem dX6_renumber_27 : decode cX6_renumber 27 = .ok (.iload_n 1, 1) := by decide +kernel
theorem dX6_renumber_28 : decode cX6_renumber 28 = .ok (.iaload, 1) := by decide +kernel
theorem dX6_renumber_29 : decode cX6_renumber 29 = .ok (.istore_n 2, 1) := by decide +kernel
theorem dX6_renumber_30 : decode cX6_renumber 30 = .ok (.iload_n 2, 1) := by decide +kernel
theorem dX6_renumber_31 : decode cX6_renumber 31 = .ok (.ifCond .lt 57, 3) := by decide +kernel
theorem dX6_renumber_34 : decode cX6_renumber 34 = .ok (.iload_n 2, 1) := by decide +kernel
theorem dX6_renumber_35 : decode cX6_renumber 35 = .ok (.aload_n 0, 1) := by decide +kernel
theorem dX6_renumber_36 : decode cX6_renumber 36 = .ok (.getfield 22, 3) := by decide +kernel
theorem dX6_renumber_39 : decode cX6_renumber 39 = .ok (.arraylength, 1) := by decide +kernel
theorem dX6_renumber_40 : decode cX6_renumber 40 = .ok (.if_icmp .lt 6, 3) := by decide +kernel
theorem dX6_renumber_43 : decode cX6_renumber 43 = .ok (.goto 45, 3) := by decide +kernel
theorem dX6_renumber_46 : decode cX6_renumber 46 = .ok (.aload_n 0, 1) := by decide +kernel
theorem dX6_renumber_47 : decode cX6_renumber 47 = .ok (.getfield 22, 3) := by decide +kernel
theorem dX6_renumber_50 : decode cX6_renumber 50 = .ok (.iload_n 2, 1) := by decide +kernel
theorem dX6_renumber_51 : decode cX6_renumber 51 = .ok (.iaload, 1) := by decide +kernel
theorem dX6_renumber_52 : decode cX6_renumber 52 = .ok (.iconst (-1), 1) := by decide +kernel
theorem dX6_renumber_53 : decode cX6_renumber 53 = .ok (.if_icmp .ne 23, 3) := by decide +kernel
theorem dX6_renumber_56 : decode cX6_renumber 56 = .ok (.aload_n 0, 1) := by decide +kernel
theorem dX6_renumber_57 : decode cX6_renumber 57 = .ok (.getfield 22, 3) := by decide +kernel
theorem dX6_renumber_60 : decode cX6_renumber 60 = .ok (.iload_n 2, 1) := by decide +kernel
theorem dX6_renumber_61 : decode cX6_renumber 61 = .ok (.aload_n 0, 1) := by decide +kernel
theorem dX6_renumber_62 : decode cX6_renumber 62 = .ok (.getfield 15, 3) := by decide +kernel
theorem dX6_renumber_65 : decode cX6_renumber 65 = .ok (.iastore, 1) := by decide +kernel
theorem dX6_renumber_66 : decode cX6_renumber 66 = .ok (.aload_n 0, 1) := by decide +kernel
theorem dX6_renumber_67 : decode cX6_renumber 67 = .ok (.dup, 1) := by decide +kernel
theorem dX6_renumber_68 : decode cX6_renumber 68 = .ok (.getfield 15, 3) := by decide +kernel
theorem dX6_renumber_71 : decode cX6_renumber 71 = .ok (.iconst 1, 1) := by decide +kernel
theorem dX6_renumber_72 : decode cX6_renumber 72 = .ok (.iadd, 1) := by decide +kernel
theorem dX6_renumber_73 : decode cX6_renumber 73 = .ok (.putfield 15, 3) := by decide +kernel
theorem dX6_renumber_76 : decode cX6_renumber 76 = .ok (.aload_n 0, 1) := by decide +kernel
theorem dX6_renumber_77 : decode cX6_renumber 77 = .ok (.getfield 18, 3) := by decide +kernel
theorem dX6_renumber_80 : decode cX6_renumber 80 = .ok (.iload_n 1, 1) := by decide +kernel
theorem dX6_renumber_81 : decode cX6_renumber 81 = .ok (.aload_n 0, 1) := by decide +kernel
theorem dX6_renumber_82 : decode cX6_renumber 82 = .ok (.getfield 22, 3) := by decide +kernel
theorem dX6_renumber_85 : decode cX6_renumber 85 = .ok (.iload_n 2, 1) := by decide +kernel
theorem dX6_renumber_86 : decode cX6_renumber 86 = .ok (.iaload, 1) := by decide +kernel
theorem dX6_renumber_87 : decode cX6_renumber 87 = .ok (.iastore, 1) := by decide +kernel
theorem dX6_renumber_88 : decode cX6_renumber 88 = .ok (.iinc 1 1, 3) := by decide +kernel
theorem dX6_renumber_91 : decode cX6_renumber 91 = .ok (.goto (-76), 3) := by decide +kernel
theorem dX6_renumber_94 : decode cX6_renumber 94 = .ok (.return_, 1) := by decide +kernel
theorem dX6_membersOf_0 : decode cX6_membersOf 0 = .ok (.iconst 0, 1) := by decide +kernel
theorem dX6_membersOf_1 : decode cX6_membersOf 1 = .ok (.istore_n 2, 1) := by decide +kernel
theorem dX6_membersOf_2 : decode cX6_membersOf 2 = .ok (.iconst 0, 1) := by decide +kernel
theorem dX6_membersOf_3 : decode cX6_membersOf 3 = .ok (.istore_n 3, 1) := by decide +kernel
theorem dX6_membersOf_4 : decode cX6_membersOf 4 = .ok (.iload_n 3, 1) := by decide +kernel
theorem dX6_membersOf_5 : decode cX6_membersOf 5 = .ok (.aload_n 0, 1) := by decide +kernel
theorem dX6_membersOf_6 : decode cX6_membersOf 6 = .ok (.getfield 9, 3) := by decide +kernel
theorem dX6_membersOf_9 : decode cX6_membersOf 9 = .ok (.if_icmp .ge 25, 3) := by decide +kernel
theorem dX6_membersOf_12 : decode cX6_membersOf 12 = .ok (.aload_n 0, 1) := by decide +kernel
theorem dX6_membersOf_13 : decode cX6_membersOf 13 = .ok (.getfield 18, 3) := by decide +kernel
theorem dX6_membersOf_16 : decode cX6_membersOf 16 = .ok (.iload_n 3, 1) := by decide +kernel
theorem dX6_membersOf_17 : decode cX6_membersOf 17 = .ok (.iaload, 1) := by decide +kernel
theorem dX6_membersOf_18 : decode cX6_membersOf 18 = .ok (.iload_n 1, 1) := by decide +kernel
theorem dX6_membersOf_19 : decode cX6_membersOf 19 = .ok (.if_icmp .ne 9, 3) := by decide +kernel
end
section
theorem dX6_membersOf_22 : decode cX6_membersOf 22 = .ok (.iload_n 2, 1) := by decide +kernel
theorem dX6_membersOf_23 : decode cX6_membersOf 23 = .ok (.iconst 1, 1) := by decide +kernel
theorem dX6_membersOf_24 : decode cX6_membersOf 24 = .ok (.iload_n 3, 1) := by decide +kernel
theorem dX6_membersOf_25 : decode cX6_membersOf 25 = .ok (.ishl, 1) := by decide +kernel
theorem dX6_membersOf_26 : decode cX6_membersOf 26 = .ok (.ior, 1) := by decide +kernel
theorem dX6_membersOf_27 : decode cX6_membersOf 27 = .ok (.istore_n 2, 1) := by decide +kernel
theorem dX6_membersOf_28 : decode cX6_membersOf 28 = .ok (.iinc 3 1, 3) := by decide +kernel
theorem dX6_membersOf_31 : decode cX6_membersOf 31 = .ok (.goto (-27), 3) := by decide +kernel
theorem dX6_membersOf_34 : decode cX6_membersOf 34 = .ok (.iload_n 2, 1) := by decide +kernel
theorem dX6_membersOf_35 : decode cX6_membersOf 35 = .ok (.ireturn, 1) := by decide +kernel
theorem dX6_pairsApart_0 : decode cX6_pairsApart 0 = .ok (.iconst 0, 1) := by decide +kernel
theorem dX6_pairsApart_1 : decode cX6_pairsApart 1 = .ok (.istore_n 2, 1) := by decide +kernel
theorem dX6_pairsApart_2 : decode cX6_pairsApart 2 = .ok (.iconst 1, 1) := by decide +kernel
theorem dX6_pairsApart_3 : decode cX6_pairsApart 3 = .ok (.istore_n 3, 1) := by decide +kernel
theorem dX6_pairsApart_4 : decode cX6_pairsApart 4 = .ok (.iload_n 3, 1) := by decide +kernel
theorem dX6_pairsApart_5 : decode cX6_pairsApart 5 = .ok (.aload_n 0, 1) := by decide +kernel
theorem dX6_pairsApart_6 : decode cX6_pairsApart 6 = .ok (.getfield 9, 3) := by decide +kernel
theorem dX6_pairsApart_9 : decode cX6_pairsApart 9 = .ok (.if_icmp .ge 85, 3) := by decide +kernel
theorem dX6_pairsApart_12 : decode cX6_pairsApart 12 = .ok (.iconst 0, 1) := by decide +kernel
theorem dX6_pairsApart_13 : decode cX6_pairsApart 13 = .ok (.istore 4, 2) := by decide +kernel
theorem dX6_pairsApart_15 : decode cX6_pairsApart 15 = .ok (.iload 4, 2) := by decide +kernel
theorem dX6_pairsApart_17 : decode cX6_pairsApart 17 = .ok (.iload_n 3, 1) := by decide +kernel
theorem dX6_pairsApart_18 : decode cX6_pairsApart 18 = .ok (.if_icmp .ge 70, 3) := by decide +kernel
theorem dX6_pairsApart_21 : decode cX6_pairsApart 21 = .ok (.aload_n 0, 1) := by decide +kernel
theorem dX6_pairsApart_22 : decode cX6_pairsApart 22 = .ok (.getfield 18, 3) := by decide +kernel
theorem dX6_pairsApart_25 : decode cX6_pairsApart 25 = .ok (.iload_n 3, 1) := by decide +kernel
theorem dX6_pairsApart_26 : decode cX6_pairsApart 26 = .ok (.iaload, 1) := by decide +kernel
theorem dX6_pairsApart_27 : decode cX6_pairsApart 27 = .ok (.aload_n 0, 1) := by decide +kernel
theorem dX6_pairsApart_28 : decode cX6_pairsApart 28 = .ok (.getfield 18, 3) := by decide +kernel
theorem dX6_pairsApart_31 : decode cX6_pairsApart 31 = .ok (.iload 4, 2) := by decide +kernel
theorem dX6_pairsApart_33 : decode cX6_pairsApart 33 = .ok (.iaload, 1) := by decide +kernel
theorem dX6_pairsApart_34 : decode cX6_pairsApart 34 = .ok (.if_icmp .ne 7, 3) := by decide +kernel
theorem dX6_pairsApart_37 : decode cX6_pairsApart 37 = .ok (.iconst 1, 1) := by decide +kernel
theorem dX6_pairsApart_38 : decode cX6_pairsApart 38 = .ok (.goto 4, 3) := by decide +kernel
theorem dX6_pairsApart_41 : decode cX6_pairsApart 41 = .ok (.iconst 0, 1) := by decide +kernel
theorem dX6_pairsApart_42 : decode cX6_pairsApart 42 = .ok (.istore 5, 2) := by decide +kernel
theorem dX6_pairsApart_44 : decode cX6_pairsApart 44 = .ok (.aload_n 1, 1) := by decide +kernel
theorem dX6_pairsApart_45 : decode cX6_pairsApart 45 = .ok (.getfield 18, 3) := by decide +kernel
theorem dX6_pairsApart_48 : decode cX6_pairsApart 48 = .ok (.iload_n 3, 1) := by decide +kernel
theorem dX6_pairsApart_49 : decode cX6_pairsApart 49 = .ok (.iaload, 1) := by decide +kernel
theorem dX6_pairsApart_50 : decode cX6_pairsApart 50 = .ok (.aload_n 1, 1) := by decide +kernel
theorem dX6_pairsApart_51 : decode cX6_pairsApart 51 = .ok (.getfield 18, 3) := by decide +kernel
theorem dX6_pairsApart_54 : decode cX6_pairsApart 54 = .ok (.iload 4, 2) := by decide +kernel
theorem dX6_pairsApart_56 : decode cX6_pairsApart 56 = .ok (.iaload, 1) := by decide +kernel
theorem dX6_pairsApart_57 : decode cX6_pairsApart 57 = .ok (.if_icmp .ne 7, 3) := by decide +kernel
theorem dX6_pairsApart_60 : decode cX6_pairsApart 60 = .ok (.iconst 1, 1) := by decide +kernel
theorem dX6_pairsApart_61 : decode cX6_pairsApart 61 = .ok (.goto 4, 3) := by decide +kernel
theorem dX6_pairsApart_64 : decode cX6_pairsApart 64 = .ok (.iconst 0, 1) := by decide +kernel
theorem dX6_pairsApart_65 : decode cX6_pairsApart 65 = .ok (.istore 6, 2) := by decide +kernel
theorem dX6_pairsApart_67 : decode cX6_pairsApart 67 = .ok (.iload_n 2, 1) := by decide +kernel
theorem dX6_pairsApart_68 : decode cX6_pairsApart 68 = .ok (.iload 5, 2) := by decide +kernel
theorem dX6_pairsApart_70 : decode cX6_pairsApart 70 = .ok (.iload 6, 2) := by decide +kernel
theorem dX6_pairsApart_72 : decode cX6_pairsApart 72 = .ok (.if_icmp .eq 7, 3) := by decide +kernel
theorem dX6_pairsApart_75 : decode cX6_pairsApart 75 = .ok (.iconst 1, 1) := by decide +kernel
theorem dX6_pairsApart_76 : decode cX6_pairsApart 76 = .ok (.goto 4, 3) := by decide +kernel
theorem dX6_pairsApart_79 : decode cX6_pairsApart 79 = .ok (.iconst 0, 1) := by decide +kernel
theorem dX6_pairsApart_80 : decode cX6_pairsApart 80 = .ok (.iadd, 1) := by decide +kernel
theorem dX6_pairsApart_81 : decode cX6_pairsApart 81 = .ok (.istore_n 2, 1) := by decide +kernel
theorem dX6_pairsApart_82 : decode cX6_pairsApart 82 = .ok (.iinc 4 1, 3) := by decide +kernel
theorem dX6_pairsApart_85 : decode cX6_pairsApart 85 = .ok (.goto (-70), 3) := by decide +kernel
theorem dX6_pairsApart_88 : decode cX6_pairsApart 88 = .ok (.iinc 3 1, 3) := by decide +kernel
theorem dX6_pairsApart_91 : decode cX6_pairsApart 91 = .ok (.goto (-87), 3) := by decide +kernel
theorem dX6_pairsApart_94 : decode cX6_pairsApart 94 = .ok (.iload_n 2, 1) := by decide +kernel
theorem dX6_pairsApart_95 : decode cX6_pairsApart 95 = .ok (.ireturn, 1) := by decide +kernel
theorem dX6_meet_0 : decode cX6_meet 0 = .ok (.aload_n 0, 1) := by decide +kernel
theorem dX6_meet_1 : decode cX6_meet 1 = .ok (.iconst 0, 1) := by decide +kernel
theorem dX6_meet_2 : decode cX6_meet 2 = .ok (.putfield 15, 3) := by decide +kernel
theorem dX6_meet_5 : decode cX6_meet 5 = .ok (.iconst 0, 1) := by decide +kernel
theorem dX6_meet_6 : decode cX6_meet 6 = .ok (.istore_n 2, 1) := by decide +kernel
theorem dX6_meet_7 : decode cX6_meet 7 = .ok (.iload_n 2, 1) := by decide +kernel
theorem dX6_meet_8 : decode cX6_meet 8 = .ok (.aload_n 0, 1) := by decide +kernel
theorem dX6_meet_9 : decode cX6_meet 9 = .ok (.getfield 9, 3) := by decide +kernel
theorem dX6_meet_12 : decode cX6_meet 12 = .ok (.if_icmp .ge 111, 3) := by decide +kernel
theorem dX6_meet_15 : decode cX6_meet 15 = .ok (.aload_n 0, 1) := by decide +kernel
theorem dX6_meet_16 : decode cX6_meet 16 = .ok (.getfield 22, 3) := by decide +kernel
theorem dX6_meet_19 : decode cX6_meet 19 = .ok (.iload_n 2, 1) := by decide +kernel
theorem dX6_meet_20 : decode cX6_meet 20 = .ok (.iconst (-1), 1) := by decide +kernel
theorem dX6_meet_21 : decode cX6_meet 21 = .ok (.iastore, 1) := by decide +kernel
theorem dX6_meet_22 : decode cX6_meet 22 = .ok (.iconst 0, 1) := by decide +kernel
theorem dX6_meet_23 : decode cX6_meet 23 = .ok (.istore_n 3, 1) := by decide +kernel
theorem dX6_meet_24 : decode cX6_meet 24 = .ok (.iload_n 3, 1) := by decide +kernel
theorem dX6_meet_25 : decode cX6_meet 25 = .ok (.iload_n 2, 1) := by decide +kernel
theorem dX6_meet_26 : decode cX6_meet 26 = .ok (.if_icmp .ge 61, 3) := by decide +kernel
theorem dX6_meet_29 : decode cX6_meet 29 = .ok (.aload_n 0, 1) := by decide +kernel
theorem dX6_meet_30 : decode cX6_meet 30 = .ok (.getfield 22, 3) := by decide +kernel
theorem dX6_meet_33 : decode cX6_meet 33 = .ok (.iload_n 2, 1) := by decide +kernel
theorem dX6_meet_34 : decode cX6_meet 34 = .ok (.iaload, 1) := by decide +kernel
theorem dX6_meet_35 : decode cX6_meet 35 = .ok (.iconst (-1), 1) := by decide +kernel
theorem dX6_meet_36 : decode cX6_meet 36 = .ok (.if_icmp .ne 51, 3) := by decide +kernel
theorem dX6_meet_39 : decode cX6_meet 39 = .ok (.aload_n 0, 1) := by decide +kernel
theorem dX6_meet_40 : decode cX6_meet 40 = .ok (.getfield 18, 3) := by decide +kernel
theorem dX6_meet_43 : decode cX6_meet 43 = .ok (.iload_n 3, 1) := by decide +kernel
theorem dX6_meet_44 : decode cX6_meet 44 = .ok (.iaload, 1) := by decide +kernel
theorem dX6_meet_45 : decode cX6_meet 45 = .ok (.aload_n 0, 1) := by decide +kernel
theorem dX6_meet_46 : decode cX6_meet 46 = .ok (.getfield 18, 3) := by decide +kernel
theorem dX6_meet_49 : decode cX6_meet 49 = .ok (.iload_n 2, 1) := by decide +kernel
theorem dX6_meet_50 : decode cX6_meet 50 = .ok (.iaload, 1) := by decide +kernel
theorem dX6_meet_51 : decode cX6_meet 51 = .ok (.if_icmp .ne 30, 3) := by decide +kernel
theorem dX6_meet_54 : decode cX6_meet 54 = .ok (.aload_n 1, 1) := by decide +kernel
theorem dX6_meet_55 : decode cX6_meet 55 = .ok (.getfield 18, 3) := by decide +kernel
theorem dX6_meet_58 : decode cX6_meet 58 = .ok (.iload_n 3, 1) := by decide +kernel
theorem dX6_meet_59 : decode cX6_meet 59 = .ok (.iaload, 1) := by decide +kernel
theorem dX6_meet_60 : decode cX6_meet 60 = .ok (.aload_n 1, 1) := by decide +kernel
theorem dX6_meet_61 : decode cX6_meet 61 = .ok (.getfield 18, 3) := by decide +kernel
theorem dX6_meet_64 : decode cX6_meet 64 = .ok (.iload_n 2, 1) := by decide +kernel
theorem dX6_meet_65 : decode cX6_meet 65 = .ok (.iaload, 1) := by decide +kernel
theorem dX6_meet_66 : decode cX6_meet 66 = .ok (.if_icmp .ne 15, 3) := by decide +kernel
theorem dX6_meet_69 : decode cX6_meet 69 = .ok (.aload_n 0, 1) := by decide +kernel
theorem dX6_meet_70 : decode cX6_meet 70 = .ok (.getfield 22, 3) := by decide +kernel
theorem dX6_meet_73 : decode cX6_meet 73 = .ok (.iload_n 2, 1) := by decide +kernel
theorem dX6_meet_74 : decode cX6_meet 74 = .ok (.aload_n 0, 1) := by decide +kernel
theorem dX6_meet_75 : decode cX6_meet 75 = .ok (.getfield 22, 3) := by decide +kernel
theorem dX6_meet_78 : decode cX6_meet 78 = .ok (.iload_n 3, 1) := by decide +kernel
theorem dX6_meet_79 : decode cX6_meet 79 = .ok (.iaload, 1) := by decide +kernel
theorem dX6_meet_80 : decode cX6_meet 80 = .ok (.iastore, 1) := by decide +kernel
theorem dX6_meet_81 : decode cX6_meet 81 = .ok (.iinc 3 1, 3) := by decide +kernel
theorem dX6_meet_84 : decode cX6_meet 84 = .ok (.goto (-60), 3) := by decide +kernel
theorem dX6_meet_87 : decode cX6_meet 87 = .ok (.aload_n 0, 1) := by decide +kernel
theorem dX6_meet_88 : decode cX6_meet 88 = .ok (.getfield 22, 3) := by decide +kernel
theorem dX6_meet_91 : decode cX6_meet 91 = .ok (.iload_n 2, 1) := by decide +kernel
theorem dX6_meet_92 : decode cX6_meet 92 = .ok (.iaload, 1) := by decide +kernel
theorem dX6_meet_93 : decode cX6_meet 93 = .ok (.iconst (-1), 1) := by decide +kernel
theorem dX6_meet_94 : decode cX6_meet 94 = .ok (.if_icmp .ne 23, 3) := by decide +kernel
theorem dX6_meet_97 : decode cX6_meet 97 = .ok (.aload_n 0, 1) := by decide +kernel
theorem dX6_meet_98 : decode cX6_meet 98 = .ok (.getfield 22, 3) := by decide +kernel
theorem dX6_meet_101 : decode cX6_meet 101 = .ok (.iload_n 2, 1) := by decide +kernel
theorem dX6_meet_102 : decode cX6_meet 102 = .ok (.aload_n 0, 1) := by decide +kernel
theorem dX6_meet_103 : decode cX6_meet 103 = .ok (.getfield 15, 3) := by decide +kernel
theorem dX6_meet_106 : decode cX6_meet 106 = .ok (.iastore, 1) := by decide +kernel
theorem dX6_meet_107 : decode cX6_meet 107 = .ok (.aload_n 0, 1) := by decide +kernel
theorem dX6_meet_108 : decode cX6_meet 108 = .ok (.dup, 1) := by decide +kernel
theorem dX6_meet_109 : decode cX6_meet 109 = .ok (.getfield 15, 3) := by decide +kernel
theorem dX6_meet_112 : decode cX6_meet 112 = .ok (.iconst 1, 1) := by decide +kernel
theorem dX6_meet_113 : decode cX6_meet 113 = .ok (.iadd, 1) := by decide +kernel
theorem dX6_meet_114 : decode cX6_meet 114 = .ok (.putfield 15, 3) := by decide +kernel
theorem dX6_meet_117 : decode cX6_meet 117 = .ok (.iinc 2 1, 3) := by decide +kernel
theorem dX6_meet_120 : decode cX6_meet 120 = .ok (.goto (-113), 3) := by decide +kernel
theorem dX6_meet_123 : decode cX6_meet 123 = .ok (.aload_n 0, 1) := by decide +kernel
theorem dX6_meet_124 : decode cX6_meet 124 = .ok (.getfield 22, 3) := by decide +kernel
theorem dX6_meet_127 : decode cX6_meet 127 = .ok (.iconst 0, 1) := by decide +kernel
theorem dX6_meet_128 : decode cX6_meet 128 = .ok (.aload_n 0, 1) := by decide +kernel
theorem dX6_meet_129 : decode cX6_meet 129 = .ok (.getfield 18, 3) := by decide +kernel
theorem dX6_meet_132 : decode cX6_meet 132 = .ok (.iconst 0, 1) := by decide +kernel
theorem dX6_meet_133 : decode cX6_meet 133 = .ok (.aload_n 0, 1) := by decide +kernel
theorem dX6_meet_134 : decode cX6_meet 134 = .ok (.getfield 9, 3) := by decide +kernel
theorem dX6_meet_137 : decode cX6_meet 137 = .ok (.invokestatic 25, 3) := by decide +kernel
theorem dX6_meet_140 : decode cX6_meet 140 = .ok (.return_, 1) := by decide +kernel
theorem dX6_standsAhead_0 : decode cX6_standsAhead 0 = .ok (.iconst 0, 1) := by decide +kernel
theorem dX6_standsAhead_1 : decode cX6_standsAhead 1 = .ok (.istore_n 2, 1) := by decide +kernel
theorem dX6_standsAhead_2 : decode cX6_standsAhead 2 = .ok (.iload_n 2, 1) := by decide +kernel
theorem dX6_standsAhead_3 : decode cX6_standsAhead 3 = .ok (.aload_n 0, 1) := by decide +kernel
theorem dX6_standsAhead_4 : decode cX6_standsAhead 4 = .ok (.getfield 9, 3) := by decide +kernel
theorem dX6_standsAhead_7 : decode cX6_standsAhead 7 = .ok (.if_icmp .ge 45, 3) := by decide +kernel
theorem dX6_standsAhead_10 : decode cX6_standsAhead 10 = .ok (.aload_n 0, 1) := by decide +kernel
theorem dX6_standsAhead_11 : decode cX6_standsAhead 11 = .ok (.getfield 18, 3) := by decide +kernel
theorem dX6_standsAhead_14 : decode cX6_standsAhead 14 = .ok (.iload_n 2, 1) := by decide +kernel
theorem dX6_standsAhead_15 : decode cX6_standsAhead 15 = .ok (.iaload, 1) := by decide +kernel
theorem dX6_standsAhead_16 : decode cX6_standsAhead 16 = .ok (.aload_n 1, 1) := by decide +kernel
theorem dX6_standsAhead_17 : decode cX6_standsAhead 17 = .ok (.getfield 18, 3) := by decide +kernel
theorem dX6_standsAhead_20 : decode cX6_standsAhead 20 = .ok (.iload_n 2, 1) := by decide +kernel
theorem dX6_standsAhead_21 : decode cX6_standsAhead 21 = .ok (.iaload, 1) := by decide +kernel
theorem dX6_standsAhead_22 : decode cX6_standsAhead 22 = .ok (.if_icmp .eq 24, 3) := by decide +kernel
theorem dX6_standsAhead_25 : decode cX6_standsAhead 25 = .ok (.aload_n 0, 1) := by decide +kernel
theorem dX6_standsAhead_26 : decode cX6_standsAhead 26 = .ok (.getfield 18, 3) := by decide +kernel
theorem dX6_standsAhead_29 : decode cX6_standsAhead 29 = .ok (.iload_n 2, 1) := by decide +kernel
theorem dX6_standsAhead_30 : decode cX6_standsAhead 30 = .ok (.iaload, 1) := by decide +kernel
theorem dX6_standsAhead_31 : decode cX6_standsAhead 31 = .ok (.aload_n 1, 1) := by decide +kernel
theorem dX6_standsAhead_32 : decode cX6_standsAhead 32 = .ok (.getfield 18, 3) := by decide +kernel
theorem dX6_standsAhead_35 : decode cX6_standsAhead 35 = .ok (.iload_n 2, 1) := by decide +kernel
theorem dX6_standsAhead_36 : decode cX6_standsAhead 36 = .ok (.iaload, 1) := by decide +kernel
theorem dX6_standsAhead_37 : decode cX6_standsAhead 37 = .ok (.if_icmp .ge 7, 3) := by decide +kernel
theorem dX6_standsAhead_40 : decode cX6_standsAhead 40 = .ok (.iconst 1, 1) := by decide +kernel
theorem dX6_standsAhead_41 : decode cX6_standsAhead 41 = .ok (.goto 4, 3) := by decide +kernel
theorem dX6_standsAhead_44 : decode cX6_standsAhead 44 = .ok (.iconst 0, 1) := by decide +kernel
theorem dX6_standsAhead_45 : decode cX6_standsAhead 45 = .ok (.ireturn, 1) := by decide +kernel
theorem dX6_standsAhead_46 : decode cX6_standsAhead 46 = .ok (.iinc 2 1, 3) := by decide +kernel
theorem dX6_standsAhead_49 : decode cX6_standsAhead 49 = .ok (.goto (-47), 3) := by decide +kernel
theorem dX6_standsAhead_52 : decode cX6_standsAhead 52 = .ok (.iconst 0, 1) := by decide +kernel
theorem dX6_standsAhead_53 : decode cX6_standsAhead 53 = .ok (.ireturn, 1) := by decide +kernel
theorem dX7_init_0 : decode cX7_init 0 = .ok (.aload_n 0, 1) := by decide +kernel
theorem dX7_init_1 : decode cX7_init 1 = .ok (.invokespecial 3, 3) := by decide +kernel
theorem dX7_init_4 : decode cX7_init 4 = .ok (.aload_n 0, 1) := by decide +kernel
theorem dX7_init_5 : decode cX7_init 5 = .ok (.iconst 1, 1) := by decide +kernel
theorem dX7_init_6 : decode cX7_init 6 = .ok (.putfield 9, 3) := by decide +kernel
theorem dX7_init_9 : decode cX7_init 9 = .ok (.aload_n 0, 1) := by decide +kernel
theorem dX7_init_10 : decode cX7_init 10 = .ok (.bipush 48, 2) := by decide +kernel
theorem dX7_init_12 : decode cX7_init 12 = .ok (.newarray .int, 2) := by decide +kernel
theorem dX7_init_14 : decode cX7_init 14 = .ok (.putfield 15, 3) := by decide +kernel
theorem dX7_init_17 : decode cX7_init 17 = .ok (.aload_n 0, 1) := by decide +kernel
theorem dX7_init_18 : decode cX7_init 18 = .ok (.sipush 144, 3) := by decide +kernel
theorem dX7_init_21 : decode cX7_init 21 = .ok (.newarray .int, 2) := by decide +kernel
theorem dX7_init_23 : decode cX7_init 23 = .ok (.putfield 19, 3) := by decide +kernel
theorem dX7_init_26 : decode cX7_init 26 = .ok (.aload_n 0, 1) := by decide +kernel
theorem dX7_init_27 : decode cX7_init 27 = .ok (.sipush 144, 3) := by decide +kernel
theorem dX7_init_30 : decode cX7_init 30 = .ok (.newarray .int, 2) := by decide +kernel
theorem dX7_init_32 : decode cX7_init 32 = .ok (.putfield 22, 3) := by decide +kernel
theorem dX7_init_35 : decode cX7_init 35 = .ok (.aload_n 0, 1) := by decide +kernel
theorem dX7_init_36 : decode cX7_init 36 = .ok (.sipush 144, 3) := by decide +kernel
theorem dX7_init_39 : decode cX7_init 39 = .ok (.newarray .int, 2) := by decide +kernel
theorem dX7_init_41 : decode cX7_init 41 = .ok (.putfield 25, 3) := by decide +kernel
theorem dX7_init_44 : decode cX7_init 44 = .ok (.aload_n 0, 1) := by decide +kernel
theorem dX7_init_45 : decode cX7_init 45 = .ok (.new 28, 3) := by decide +kernel
theorem dX7_init_48 : decode cX7_init 48 = .ok (.dup, 1) := by decide +kernel
theorem dX7_init_49 : decode cX7_init 49 = .ok (.invokespecial 30, 3) := by decide +kernel
theorem dX7_init_52 : decode cX7_init 52 = .ok (.putfield 31, 3) := by decide +kernel
theorem dX7_init_55 : decode cX7_init 55 = .ok (.return_, 1) := by decide +kernel
theorem dX7_restart_0 : decode cX7_restart 0 = .ok (.aload_n 0, 1) := by decide +kernel
theorem dX7_restart_1 : decode cX7_restart 1 = .ok (.iload_n 1, 1) := by decide +kernel
theorem dX7_restart_2 : decode cX7_restart 2 = .ok (.putfield 9, 3) := by decide +kernel
theorem dX7_restart_5 : decode cX7_restart 5 = .ok (.aload_n 0, 1) := by decide +kernel
theorem dX7_restart_6 : decode cX7_restart 6 = .ok (.getfield 15, 3) := by decide +kernel
theorem dX7_restart_9 : decode cX7_restart 9 = .ok (.iconst 0, 1) := by decide +kernel
theorem dX7_restart_10 : decode cX7_restart 10 = .ok (.invokestatic 35, 3) := by decide +kernel
theorem dX7_restart_13 : decode cX7_restart 13 = .ok (.aload_n 0, 1) := by decide +kernel
theorem dX7_restart_14 : decode cX7_restart 14 = .ok (.getfield 19, 3) := by decide +kernel
theorem dX7_restart_17 : decode cX7_restart 17 = .ok (.iconst 0, 1) := by decide +kernel
theorem dX7_restart_18 : decode cX7_restart 18 = .ok (.invokestatic 35, 3) := by decide +kernel
theorem dX7_restart_21 : decode cX7_restart 21 = .ok (.aload_n 0, 1) := by decide +kernel
theorem dX7_restart_22 : decode cX7_restart 22 = .ok (.getfield 22, 3) := by decide +kernel
theorem dX7_restart_25 : decode cX7_restart 25 = .ok (.iconst 0, 1) := by decide +kernel
theorem dX7_restart_26 : decode cX7_restart 26 = .ok (.invokestatic 35, 3) := by decide +kernel
theorem dX7_restart_29 : decode cX7_restart 29 = .ok (.aload_n 0, 1) := by decide +kernel
theorem dX7_restart_30 : decode cX7_restart 30 = .ok (.getfield 25, 3) := by decide +kernel
theorem dX7_restart_33 : decode cX7_restart 33 = .ok (.iconst 0, 1) := by decide +kernel
theorem dX7_restart_34 : decode cX7_restart 34 = .ok (.invokestatic 35, 3) := by decide +kernel
theorem dX7_restart_37 : decode cX7_restart 37 = .ok (.aload_n 0, 1) := by decide +kernel
theorem dX7_restart_38 : decode cX7_restart 38 = .ok (.getfield 31, 3) := by decide +kernel
theorem dX7_restart_41 : decode cX7_restart 41 = .ok (.iload_n 1, 1) := by decide +kernel
theorem dX7_restart_42 : decode cX7_restart 42 = .ok (.invokevirtual 41, 3) := by decide +kernel
theorem dX7_restart_45 : decode cX7_restart 45 = .ok (.return_, 1) := by decide +kernel
theorem dX7_copyFrom_0 : decode cX7_copyFrom 0 = .ok (.aload_n 0, 1) := by decide +kernel
theorem dX7_copyFrom_1 : decode cX7_copyFrom 1 = .ok (.aload_n 1, 1) := by decide +kernel
theorem dX7_copyFrom_2 : decode cX7_copyFrom 2 = .ok (.getfield 9, 3) := by decide +kernel
theorem dX7_copyFrom_5 : decode cX7_copyFrom 5 = .ok (.putfield 9, 3) := by decide +kernel
theorem dX7_copyFrom_8 : decode cX7_copyFrom 8 = .ok (.aload_n 1, 1) := by decide +kernel
theorem dX7_copyFrom_9 : decode cX7_copyFrom 9 = .ok (.getfield 15, 3) := by decide +kernel
theorem dX7_copyFrom_12 : decode cX7_copyFrom 12 = .ok (.iconst 0, 1) := by decide +kernel
theorem dX7_copyFrom_13 : decode cX7_copyFrom 13 = .ok (.aload_n 0, 1) := by decide +kernel
theorem dX7_copyFrom_14 : decode cX7_copyFrom 14 = .ok (.getfield 15, 3) := by decide +kernel
theorem dX7_copyFrom_17 : decode cX7_copyFrom 17 = .ok (.iconst 0, 1) := by decide +kernel
theorem dX7_copyFrom_18 : decode cX7_copyFrom 18 = .ok (.aload_n 0, 1) := by decide +kernel
theorem dX7_copyFrom_19 : decode cX7_copyFrom 19 = .ok (.getfield 15, 3) := by decide +kernel
theorem dX7_copyFrom_22 : decode cX7_copyFrom 22 = .ok (.arraylength, 1) := by decide +kernel
theorem dX7_copyFrom_23 : decode cX7_copyFrom 23 = .ok (.invokestatic 45, 3) := by decide +kernel
theorem dX7_copyFrom_26 : decode cX7_copyFrom 26 = .ok (.aload_n 1, 1) := by decide +kernel
theorem dX7_copyFrom_27 : decode cX7_copyFrom 27 = .ok (.getfield 19, 3) := by decide +kernel
theorem dX7_copyFrom_30 : decode cX7_copyFrom 30 = .ok (.iconst 0, 1) := by decide +kernel
theorem dX7_copyFrom_31 : decode cX7_copyFrom 31 = .ok (.aload_n 0, 1) := by decide +kernel
theorem dX7_copyFrom_32 : decode cX7_copyFrom 32 = .ok (.getfield 19, 3) := by decide +kernel
theorem dX7_copyFrom_35 : decode cX7_copyFrom 35 = .ok (.iconst 0, 1) := by decide +kernel
theorem dX7_copyFrom_36 : decode cX7_copyFrom 36 = .ok (.aload_n 0, 1) := by decide +kernel
theorem dX7_copyFrom_37 : decode cX7_copyFrom 37 = .ok (.getfield 19, 3) := by decide +kernel
theorem dX7_copyFrom_40 : decode cX7_copyFrom 40 = .ok (.arraylength, 1) := by decide +kernel
theorem dX7_copyFrom_41 : decode cX7_copyFrom 41 = .ok (.invokestatic 45, 3) := by decide +kernel
theorem dX7_copyFrom_44 : decode cX7_copyFrom 44 = .ok (.aload_n 1, 1) := by decide +kernel
theorem dX7_copyFrom_45 : decode cX7_copyFrom 45 = .ok (.getfield 22, 3) := by decide +kernel
theorem dX7_copyFrom_48 : decode cX7_copyFrom 48 = .ok (.iconst 0, 1) := by decide +kernel
theorem dX7_copyFrom_49 : decode cX7_copyFrom 49 = .ok (.aload_n 0, 1) := by decide +kernel
theorem dX7_copyFrom_50 : decode cX7_copyFrom 50 = .ok (.getfield 22, 3) := by decide +kernel
theorem dX7_copyFrom_53 : decode cX7_copyFrom 53 = .ok (.iconst 0, 1) := by decide +kernel
theorem dX7_copyFrom_54 : decode cX7_copyFrom 54 = .ok (.aload_n 0, 1) := by decide +kernel
theorem dX7_copyFrom_55 : decode cX7_copyFrom 55 = .ok (.getfield 22, 3) := by decide +kernel
theorem dX7_copyFrom_58 : decode cX7_copyFrom 58 = .ok (.arraylength, 1) := by decide +kernel
theorem dX7_copyFrom_59 : decode cX7_copyFrom 59 = .ok (.invokestatic 45, 3) := by decide +kernel
theorem dX7_copyFrom_62 : decode cX7_copyFrom 62 = .ok (.aload_n 1, 1) := by decide +kernel
theorem dX7_copyFrom_63 : decode cX7_copyFrom 63 = .ok (.getfield 25, 3) := by decide +kernel
theorem dX7_copyFrom_66 : decode cX7_copyFrom 66 = .ok (.iconst 0, 1) := by decide +kernel
theorem dX7_copyFrom_67 : decode cX7_copyFrom 67 = .ok (.aload_n 0, 1) := by decide +kernel
theorem dX7_copyFrom_68 : decode cX7_copyFrom 68 = .ok (.getfield 25, 3) := by decide +kernel
theorem dX7_copyFrom_71 : decode cX7_copyFrom 71 = .ok (.iconst 0, 1) := by decide +kernel
theorem dX7_copyFrom_72 : decode cX7_copyFrom 72 = .ok (.aload_n 0, 1) := by decide +kernel
theorem dX7_copyFrom_73 : decode cX7_copyFrom 73 = .ok (.getfield 25, 3) := by decide +kernel
theorem dX7_copyFrom_76 : decode cX7_copyFrom 76 = .ok (.arraylength, 1) := by decide +kernel
theorem dX7_copyFrom_77 : decode cX7_copyFrom 77 = .ok (.invokestatic 45, 3) := by decide +kernel
theorem dX7_copyFrom_80 : decode cX7_copyFrom 80 = .ok (.aload_n 0, 1) := by decide +kernel
theorem dX7_copyFrom_81 : decode cX7_copyFrom 81 = .ok (.getfield 31, 3) := by decide +kernel
theorem dX7_copyFrom_84 : decode cX7_copyFrom 84 = .ok (.aload_n 1, 1) := by decide +kernel
theorem dX7_copyFrom_85 : decode cX7_copyFrom 85 = .ok (.getfield 31, 3) := by decide +kernel
theorem dX7_copyFrom_88 : decode cX7_copyFrom 88 = .ok (.invokevirtual 51, 3) := by decide +kernel
theorem dX7_copyFrom_91 : decode cX7_copyFrom 91 = .ok (.return_, 1) := by decide +kernel
theorem dX7_wayOf_0 : decode cX7_wayOf 0 = .ok (.aload_n 0, 1) := by decide +kernel
theorem dX7_wayOf_1 : decode cX7_wayOf 1 = .ok (.getfield 19, 3) := by decide +kernel
theorem dX7_wayOf_4 : decode cX7_wayOf 4 = .ok (.iload_n 1, 1) := by decide +kernel
theorem dX7_wayOf_5 : decode cX7_wayOf 5 = .ok (.bipush 12, 2) := by decide +kernel
theorem dX7_wayOf_7 : decode cX7_wayOf 7 = .ok (.imul, 1) := by decide +kernel
theorem dX7_wayOf_8 : decode cX7_wayOf 8 = .ok (.iload_n 2, 1) := by decide +kernel
theorem dX7_wayOf_9 : decode cX7_wayOf 9 = .ok (.iadd, 1) := by decide +kernel
theorem dX7_wayOf_10 : decode cX7_wayOf 10 = .ok (.iaload, 1) := by decide +kernel
theorem dX7_wayOf_11 : decode cX7_wayOf 11 = .ok (.ireturn, 1) := by decide +kernel
theorem dX7_weightOf_0 : decode cX7_weightOf 0 = .ok (.aload_n 0, 1) := by decide +kernel
theorem dX7_weightOf_1 : decode cX7_weightOf 1 = .ok (.getfield 22, 3) := by decide +kernel
theorem dX7_weightOf_4 : decode cX7_weightOf 4 = .ok (.iload_n 1, 1) := by decide +kernel
theorem dX7_weightOf_5 : decode cX7_weightOf 5 = .ok (.bipush 12, 2) := by decide +kernel
theorem dX7_weightOf_7 : decode cX7_weightOf 7 = .ok (.imul, 1) := by decide +kernel
theorem dX7_weightOf_8 : decode cX7_weightOf 8 = .ok (.iload_n 2, 1) := by decide +kernel
theorem dX7_weightOf_9 : decode cX7_weightOf 9 = .ok (.iadd, 1) := by decide +kernel
theorem dX7_weightOf_10 : decode cX7_weightOf 10 = .ok (.iaload, 1) := by decide +kernel
theorem dX7_weightOf_11 : decode cX7_weightOf 11 = .ok (.ireturn, 1) := by decide +kernel
theorem dX7_likeOf_0 : decode cX7_likeOf 0 = .ok (.aload_n 0, 1) := by decide +kernel
theorem dX7_likeOf_1 : decode cX7_likeOf 1 = .ok (.getfield 25, 3) := by decide +kernel
theorem dX7_likeOf_4 : decode cX7_likeOf 4 = .ok (.iload_n 1, 1) := by decide +kernel
theorem dX7_likeOf_5 : decode cX7_likeOf 5 = .ok (.bipush 12, 2) := by decide +kernel
theorem dX7_likeOf_7 : decode cX7_likeOf 7 = .ok (.imul, 1) := by decide +kernel
theorem dX7_likeOf_8 : decode cX7_likeOf 8 = .ok (.iload_n 2, 1) := by decide +kernel
theorem dX7_likeOf_9 : decode cX7_likeOf 9 = .ok (.iadd, 1) := by decide +kernel
theorem dX7_likeOf_10 : decode cX7_likeOf 10 = .ok (.iaload, 1) := by decide +kernel
theorem dX7_likeOf_11 : decode cX7_likeOf 11 = .ok (.ireturn, 1) := by decide +kernel
theorem dX7_setWay_0 : decode cX7_setWay 0 = .ok (.aload_n 0, 1) := by decide +kernel
theorem dX7_setWay_1 : decode cX7_setWay 1 = .ok (.getfield 19, 3) := by decide +kernel
theorem dX7_setWay_4 : decode cX7_setWay 4 = .ok (.iload_n 1, 1) := by decide +kernel
theorem dX7_setWay_5 : decode cX7_setWay 5 = .ok (.bipush 12, 2) := by decide +kernel
theorem dX7_setWay_7 : decode cX7_setWay 7 = .ok (.imul, 1) := by decide +kernel
theorem dX7_setWay_8 : decode cX7_setWay 8 = .ok (.iload_n 2, 1) := by decide +kernel
theorem dX7_setWay_9 : decode cX7_setWay 9 = .ok (.iadd, 1) := by decide +kernel
theorem dX7_setWay_10 : decode cX7_setWay 10 = .ok (.iload_n 3, 1) := by decide +kernel
theorem dX7_setWay_11 : decode cX7_setWay 11 = .ok (.iastore, 1) := by decide +kernel
theorem dX7_setWay_12 : decode cX7_setWay 12 = .ok (.aload_n 0, 1) := by decide +kernel
theorem dX7_setWay_13 : decode cX7_setWay 13 = .ok (.getfield 19, 3) := by decide +kernel
theorem dX7_setWay_16 : decode cX7_setWay 16 = .ok (.iload_n 2, 1) := by decide +kernel
theorem dX7_setWay_17 : decode cX7_setWay 17 = .ok (.bipush 12, 2) := by decide +kernel
theorem dX7_setWay_19 : decode cX7_setWay 19 = .ok (.imul, 1) := by decide +kernel
theorem dX7_setWay_20 : decode cX7_setWay 20 = .ok (.iload_n 1, 1) := by decide +kernel
theorem dX7_setWay_21 : decode cX7_setWay 21 = .ok (.iadd, 1) := by decide +kernel
theorem dX7_setWay_22 : decode cX7_setWay 22 = .ok (.iload_n 3, 1) := by decide +kernel
theorem dX7_setWay_23 : decode cX7_setWay 23 = .ok (.iastore, 1) := by decide +kernel
theorem dX7_setWay_24 : decode cX7_setWay 24 = .ok (.return_, 1) := by decide +kernel
theorem dX7_setQuarrel_0 : decode cX7_setQuarrel 0 = .ok (.aload_n 0, 1) := by decide +kernel
theorem dX7_setQuarrel_1 : decode cX7_setQuarrel 1 = .ok (.getfield 22, 3) := by decide +kernel
theorem dX7_setQuarrel_4 : decode cX7_setQuarrel 4 = .ok (.iload_n 1, 1) := by decide +kernel
theorem dX7_setQuarrel_5 : decode cX7_setQuarrel 5 = .ok (.bipush 12, 2) := by decide +kernel
theorem dX7_setQuarrel_7 : decode cX7_setQuarrel 7 = .ok (.imul, 1) := by decide +kernel
theorem dX7_setQuarrel_8 : decode cX7_setQuarrel 8 = .ok (.iload_n 2, 1) := by decide +kernel
theorem dX7_setQuarrel_9 : decode cX7_setQuarrel 9 = .ok (.iadd, 1) := by decide +kernel
theorem dX7_setQuarrel_10 : decode cX7_setQuarrel 10 = .ok (.iload_n 3, 1) := by decide +kernel
theorem dX7_setQuarrel_11 : decode cX7_setQuarrel 11 = .ok (.iastore, 1) := by decide +kernel
theorem dX7_setQuarrel_12 : decode cX7_setQuarrel 12 = .ok (.aload_n 0, 1) := by decide +kernel
theorem dX7_setQuarrel_13 : decode cX7_setQuarrel 13 = .ok (.getfield 22, 3) := by decide +kernel
theorem dX7_setQuarrel_16 : decode cX7_setQuarrel 16 = .ok (.iload_n 2, 1) := by decide +kernel
theorem dX7_setQuarrel_17 : decode cX7_setQuarrel 17 = .ok (.bipush 12, 2) := by decide +kernel
theorem dX7_setQuarrel_19 : decode cX7_setQuarrel 19 = .ok (.imul, 1) := by decide +kernel
theorem dX7_setQuarrel_20 : decode cX7_setQuarrel 20 = .ok (.iload_n 1, 1) := by decide +kernel
theorem dX7_setQuarrel_21 : decode cX7_setQuarrel 21 = .ok (.iadd, 1) := by decide +kernel
theorem dX7_setQuarrel_22 : decode cX7_setQuarrel 22 = .ok (.iload_n 3, 1) := by decide +kernel
theorem dX7_setQuarrel_23 : decode cX7_setQuarrel 23 = .ok (.iastore, 1) := by decide +kernel
theorem dX7_setQuarrel_24 : decode cX7_setQuarrel 24 = .ok (.aload_n 0, 1) := by decide +kernel
theorem dX7_setQuarrel_25 : decode cX7_setQuarrel 25 = .ok (.getfield 25, 3) := by decide +kernel
theorem dX7_setQuarrel_28 : decode cX7_setQuarrel 28 = .ok (.iload_n 1, 1) := by decide +kernel
theorem dX7_setQuarrel_29 : decode cX7_setQuarrel 29 = .ok (.bipush 12, 2) := by decide +kernel
theorem dX7_setQuarrel_31 : decode cX7_setQuarrel 31 = .ok (.imul, 1) := by decide +kernel
theorem dX7_setQuarrel_32 : decode cX7_setQuarrel 32 = .ok (.iload_n 2, 1) := by decide +kernel
theorem dX7_setQuarrel_33 : decode cX7_setQuarrel 33 = .ok (.iadd, 1) := by decide +kernel
theorem dX7_setQuarrel_34 : decode cX7_setQuarrel 34 = .ok (.iload 4, 2) := by decide +kernel
theorem dX7_setQuarrel_36 : decode cX7_setQuarrel 36 = .ok (.iastore, 1) := by decide +kernel
theorem dX7_setQuarrel_37 : decode cX7_setQuarrel 37 = .ok (.aload_n 0, 1) := by decide +kernel
theorem dX7_setQuarrel_38 : decode cX7_setQuarrel 38 = .ok (.getfield 25, 3) := by decide +kernel
theorem dX7_setQuarrel_41 : decode cX7_setQuarrel 41 = .ok (.iload_n 2, 1) := by decide +kernel
theorem dX7_setQuarrel_42 : decode cX7_setQuarrel 42 = .ok (.bipush 12, 2) := by decide +kernel
theorem dX7_setQuarrel_44 : decode cX7_setQuarrel 44 = .ok (.imul, 1) := by decide +kernel
theorem dX7_setQuarrel_45 : decode cX7_setQuarrel 45 = .ok (.iload_n 1, 1) := by decide +kernel
theorem dX7_setQuarrel_46 : decode cX7_setQuarrel 46 = .ok (.iadd, 1) := by decide +kernel
theorem dX7_setQuarrel_47 : decode cX7_setQuarrel 47 = .ok (.iload 4, 2) := by decide +kernel
theorem dX7_setQuarrel_49 : decode cX7_setQuarrel 49 = .ok (.iastore, 1) := by decide +kernel
theorem dX7_setQuarrel_50 : decode cX7_setQuarrel 50 = .ok (.return_, 1) := by decide +kernel
theorem dX7_pulls_0 : decode cX7_pulls 0 = .ok (.aload_n 0, 1) := by decide +kernel
theorem dX7_pulls_1 : decode cX7_pulls 1 = .ok (.iload_n 1, 1) := by decide +kernel
theorem dX7_pulls_2 : decode cX7_pulls 2 = .ok (.iload_n 2, 1) := by decide +kernel
theorem dX7_pulls_3 : decode cX7_pulls 3 = .ok (.invokevirtual 55, 3) := by decide +kernel
theorem dX7_pulls_6 : decode cX7_pulls 6 = .ok (.ifCond .le 17, 3) := by decide +kernel
theorem dX7_pulls_9 : decode cX7_pulls 9 = .ok (.aload_n 0, 1) := by decide +kernel
theorem dX7_pulls_10 : decode cX7_pulls 10 = .ok (.iload_n 1, 1) := by decide +kernel
theorem dX7_pulls_11 : decode cX7_pulls 11 = .ok (.iload_n 2, 1) := by decide +kernel
theorem dX7_pulls_12 : decode cX7_pulls 12 = .ok (.invokevirtual 59, 3) := by decide +kernel
theorem dX7_pulls_15 : decode cX7_pulls 15 = .ok (.iconst 1, 1) := by decide +kernel
theorem dX7_pulls_16 : decode cX7_pulls 16 = .ok (.if_icmp .ne 7, 3) := by decide +kernel
theorem dX7_pulls_19 : decode cX7_pulls 19 = .ok (.iconst 1, 1) := by decide +kernel
theorem dX7_pulls_20 : decode cX7_pulls 20 = .ok (.goto 4, 3) := by decide +kernel
theorem dX7_pulls_23 : decode cX7_pulls 23 = .ok (.iconst 0, 1) := by decide +kernel
theorem dX7_pulls_24 : decode cX7_pulls 24 = .ok (.ireturn, 1) := by decide +kernel
theorem dX7_firstNumber_0 : decode cX7_firstNumber 0 = .ok (.aload_n 0, 1) := by decide +kernel
theorem dX7_firstNumber_1 : decode cX7_firstNumber 1 = .ok (.getfield 15, 3) := by decide +kernel
theorem dX7_firstNumber_4 : decode cX7_firstNumber 4 = .ok (.iload_n 1, 1) := by decide +kernel
theorem dX7_firstNumber_5 : decode cX7_firstNumber 5 = .ok (.iconst 4, 1) := by decide +kernel
theorem dX7_firstNumber_6 : decode cX7_firstNumber 6 = .ok (.imul, 1) := by decide +kernel
theorem dX7_firstNumber_7 : decode cX7_firstNumber 7 = .ok (.iaload, 1) := by decide +kernel
theorem dX7_firstNumber_8 : decode cX7_firstNumber 8 = .ok (.ireturn, 1) := by decide +kernel
theorem dX7_gapOf_0 : decode cX7_gapOf 0 = .ok (.iconst 0, 1) := by decide +kernel
theorem dX7_gapOf_1 : decode cX7_gapOf 1 = .ok (.istore 4, 2) := by decide +kernel
theorem dX7_gapOf_3 : decode cX7_gapOf 3 = .ok (.iconst 0, 1) := by decide +kernel
theorem dX7_gapOf_4 : decode cX7_gapOf 4 = .ok (.istore 5, 2) := by decide +kernel
theorem dX7_gapOf_6 : decode cX7_gapOf 6 = .ok (.iload 5, 2) := by decide +kernel
theorem dX7_gapOf_8 : decode cX7_gapOf 8 = .ok (.iconst 4, 1) := by decide +kernel
theorem dX7_gapOf_9 : decode cX7_gapOf 9 = .ok (.if_icmp .ge 78, 3) := by decide +kernel
theorem dX7_gapOf_12 : decode cX7_gapOf 12 = .ok (.aload_n 0, 1) := by decide +kernel
theorem dX7_gapOf_13 : decode cX7_gapOf 13 = .ok (.getfield 15, 3) := by decide +kernel
theorem dX7_gapOf_16 : decode cX7_gapOf 16 = .ok (.iload_n 1, 1) := by decide +kernel
theorem dX7_gapOf_17 : decode cX7_gapOf 17 = .ok (.iconst 4, 1) := by decide +kernel
theorem dX7_gapOf_18 : decode cX7_gapOf 18 = .ok (.imul, 1) := by decide +kernel
theorem dX7_gapOf_19 : decode cX7_gapOf 19 = .ok (.iload 5, 2) := by decide +kernel
theorem dX7_gapOf_21 : decode cX7_gapOf 21 = .ok (.iadd, 1) := by decide +kernel
theorem dX7_gapOf_22 : decode cX7_gapOf 22 = .ok (.iaload, 1) := by decide +kernel
theorem dX7_gapOf_23 : decode cX7_gapOf 23 = .ok (.aload_n 0, 1) := by decide +kernel
theorem dX7_gapOf_24 : decode cX7_gapOf 24 = .ok (.getfield 15, 3) := by decide +kernel
theorem dX7_gapOf_27 : decode cX7_gapOf 27 = .ok (.iload_n 2, 1) := by decide +kernel
theorem dX7_gapOf_28 : decode cX7_gapOf 28 = .ok (.iconst 4, 1) := by decide +kernel
theorem dX7_gapOf_29 : decode cX7_gapOf 29 = .ok (.imul, 1) := by decide +kernel
theorem dX7_gapOf_30 : decode cX7_gapOf 30 = .ok (.iload 5, 2) := by decide +kernel
theorem dX7_gapOf_32 : decode cX7_gapOf 32 = .ok (.iadd, 1) := by decide +kernel
theorem dX7_gapOf_33 : decode cX7_gapOf 33 = .ok (.iaload, 1) := by decide +kernel
theorem dX7_gapOf_34 : decode cX7_gapOf 34 = .ok (.isub, 1) := by decide +kernel
theorem dX7_gapOf_35 : decode cX7_gapOf 35 = .ok (.invokestatic 62, 3) := by decide +kernel
theorem dX7_gapOf_38 : decode cX7_gapOf 38 = .ok (.istore 6, 2) := by decide +kernel
theorem dX7_gapOf_40 : decode cX7_gapOf 40 = .ok (.iload_n 3, 1) := by decide +kernel
theorem dX7_gapOf_41 : decode cX7_gapOf 41 = .ok (.ifCond .ne 13, 3) := by decide +kernel
theorem dX7_gapOf_44 : decode cX7_gapOf 44 = .ok (.iload 4, 2) := by decide +kernel
theorem dX7_gapOf_46 : decode cX7_gapOf 46 = .ok (.iload 6, 2) := by decide +kernel
theorem dX7_gapOf_48 : decode cX7_gapOf 48 = .ok (.iadd, 1) := by decide +kernel
theorem dX7_gapOf_49 : decode cX7_gapOf 49 = .ok (.istore 4, 2) := by decide +kernel
theorem dX7_gapOf_51 : decode cX7_gapOf 51 = .ok (.goto 30, 3) := by decide +kernel
theorem dX7_gapOf_54 : decode cX7_gapOf 54 = .ok (.iload_n 3, 1) := by decide +kernel
theorem dX7_gapOf_55 : decode cX7_gapOf 55 = .ok (.iconst 1, 1) := by decide +kernel
theorem dX7_gapOf_56 : decode cX7_gapOf 56 = .ok (.if_icmp .ne 15, 3) := by decide +kernel
theorem dX7_gapOf_59 : decode cX7_gapOf 59 = .ok (.iload 4, 2) := by decide +kernel
theorem dX7_gapOf_61 : decode cX7_gapOf 61 = .ok (.iload 6, 2) := by decide +kernel
theorem dX7_gapOf_63 : decode cX7_gapOf 63 = .ok (.invokestatic 68, 3) := by decide +kernel
theorem dX7_gapOf_66 : decode cX7_gapOf 66 = .ok (.istore 4, 2) := by decide +kernel
theorem dX7_gapOf_68 : decode cX7_gapOf 68 = .ok (.goto 13, 3) := by decide +kernel
theorem dX7_gapOf_71 : decode cX7_gapOf 71 = .ok (.iload 4, 2) := by decide +kernel
theorem dX7_gapOf_73 : decode cX7_gapOf 73 = .ok (.iload 6, 2) := by decide +kernel
theorem dX7_gapOf_75 : decode cX7_gapOf 75 = .ok (.iload 6, 2) := by decide +kernel
theorem dX7_gapOf_77 : decode cX7_gapOf 77 = .ok (.imul, 1) := by decide +kernel
theorem dX7_gapOf_78 : decode cX7_gapOf 78 = .ok (.iadd, 1) := by decide +kernel
theorem dX7_gapOf_79 : decode cX7_gapOf 79 = .ok (.istore 4, 2) := by decide +kernel
theorem dX7_gapOf_81 : decode cX7_gapOf 81 = .ok (.iinc 5 1, 3) := by decide +kernel
theorem dX7_gapOf_84 : decode cX7_gapOf 84 = .ok (.goto (-78), 3) := by decide +kernel
theorem dX7_gapOf_87 : decode cX7_gapOf 87 = .ok (.iload 4, 2) := by decide +kernel
theorem dX7_gapOf_89 : decode cX7_gapOf 89 = .ok (.ireturn, 1) := by decide +kernel
theorem dX7_partByCentres_0 : decode cX7_partByCentres 0 = .ok (.aload_n 0, 1) := by decide +kernel
theorem dX7_partByCentres_1 : decode cX7_partByCentres 1 = .ok (.getfield 31, 3) := by decide +kernel
theorem dX7_partByCentres_4 : decode cX7_partByCentres 4 = .ok (.getfield 71, 3) := by decide +kernel
theorem dX7_partByCentres_7 : decode cX7_partByCentres 7 = .ok (.iconst 0, 1) := by decide +kernel
theorem dX7_partByCentres_8 : decode cX7_partByCentres 8 = .ok (.invokestatic 35, 3) := by decide +kernel
theorem dX7_partByCentres_11 : decode cX7_partByCentres 11 = .ok (.iconst 1, 1) := by decide +kernel
theorem dX7_partByCentres_12 : decode cX7_partByCentres 12 = .ok (.istore_n 2, 1) := by decide +kernel
theorem dX7_partByCentres_13 : decode cX7_partByCentres 13 = .ok (.iload_n 2, 1) := by decide +kernel
theorem dX7_partByCentres_14 : decode cX7_partByCentres 14 = .ok (.iload_n 1, 1) := by decide +kernel
theorem dX7_partByCentres_15 : decode cX7_partByCentres 15 = .ok (.if_icmp .ge 17, 3) := by decide +kernel
theorem dX7_partByCentres_18 : decode cX7_partByCentres 18 = .ok (.aload_n 0, 1) := by decide +kernel
theorem dX7_partByCentres_19 : decode cX7_partByCentres 19 = .ok (.aload_n 0, 1) := by decide +kernel
theorem dX7_partByCentres_20 : decode cX7_partByCentres 20 = .ok (.invokevirtual 74, 3) := by decide +kernel
theorem dX7_partByCentres_23 : decode cX7_partByCentres 23 = .ok (.invokevirtual 78, 3) := by decide +kernel
theorem dX7_partByCentres_26 : decode cX7_partByCentres 26 = .ok (.iinc 2 1, 3) := by decide +kernel
theorem dX7_partByCentres_29 : decode cX7_partByCentres 29 = .ok (.goto (-16), 3) := by decide +kernel
theorem dX7_partByCentres_32 : decode cX7_partByCentres 32 = .ok (.aload_n 0, 1) := by decide +kernel
theorem dX7_partByCentres_33 : decode cX7_partByCentres 33 = .ok (.aload_n 0, 1) := by decide +kernel
theorem dX7_partByCentres_34 : decode cX7_partByCentres 34 = .ok (.invokevirtual 74, 3) := by decide +kernel
theorem dX7_partByCentres_37 : decode cX7_partByCentres 37 = .ok (.invokevirtual 81, 3) := by decide +kernel
theorem dX7_partByCentres_40 : decode cX7_partByCentres 40 = .ok (.istore_n 2, 1) := by decide +kernel
theorem dX7_partByCentres_41 : decode cX7_partByCentres 41 = .ok (.aload_n 0, 1) := by decide +kernel
theorem dX7_partByCentres_42 : decode cX7_partByCentres 42 = .ok (.getfield 31, 3) := by decide +kernel
theorem dX7_partByCentres_45 : decode cX7_partByCentres 45 = .ok (.invokevirtual 84, 3) := by decide +kernel
theorem dX7_partByCentres_48 : decode cX7_partByCentres 48 = .ok (.iload_n 2, 1) := by decide +kernel
theorem dX7_partByCentres_49 : decode cX7_partByCentres 49 = .ok (.ireturn, 1) := by decide +kernel
theorem dX7_wayToCentre_0 : decode cX7_wayToCentre 0 = .ok (.aload_n 0, 1) := by decide +kernel
theorem dX7_wayToCentre_1 : decode cX7_wayToCentre 1 = .ok (.iload_n 1, 1) := by decide +kernel
theorem dX7_wayToCentre_2 : decode cX7_wayToCentre 2 = .ok (.aload_n 0, 1) := by decide +kernel
theorem dX7_wayToCentre_3 : decode cX7_wayToCentre 3 = .ok (.getfield 31, 3) := by decide +kernel
theorem dX7_wayToCentre_6 : decode cX7_wayToCentre 6 = .ok (.getfield 71, 3) := by decide +kernel
theorem dX7_wayToCentre_9 : decode cX7_wayToCentre 9 = .ok (.iload_n 1, 1) := by decide +kernel
theorem dX7_wayToCentre_10 : decode cX7_wayToCentre 10 = .ok (.iaload, 1) := by decide +kernel
theorem dX7_wayToCentre_11 : decode cX7_wayToCentre 11 = .ok (.invokevirtual 87, 3) := by decide +kernel
theorem dX7_wayToCentre_14 : decode cX7_wayToCentre 14 = .ok (.ireturn, 1) := by decide +kernel
theorem dX7_farthestFromCentre_0 : decode cX7_farthestFromCentre 0 = .ok (.iconst 0, 1) := by decide +kernel
theorem dX7_farthestFromCentre_1 : decode cX7_farthestFromCentre 1 = .ok (.istore_n 1, 1) := by decide +kernel
theorem dX7_farthestFromCentre_2 : decode cX7_farthestFromCentre 2 = .ok (.iconst 1, 1) := by decide +kernel
theorem dX7_farthestFromCentre_3 : decode cX7_farthestFromCentre 3 = .ok (.istore_n 2, 1) := by decide +kernel
theorem dX7_farthestFromCentre_4 : decode cX7_farthestFromCentre 4 = .ok (.iload_n 2, 1) := by decide +kernel
theorem dX7_farthestFromCentre_5 : decode cX7_farthestFromCentre 5 = .ok (.aload_n 0, 1) := by decide +kernel
theorem dX7_farthestFromCentre_6 : decode cX7_farthestFromCentre 6 = .ok (.getfield 9, 3) := by decide +kernel
theorem dX7_farthestFromCentre_9 : decode cX7_farthestFromCentre 9 = .ok (.if_icmp .ge 24, 3) := by decide +kernel
theorem dX7_farthestFromCentre_12 : decode cX7_farthestFromCentre 12 = .ok (.aload_n 0, 1) := by decide +kernel
theorem dX7_farthestFromCentre_13 : decode cX7_farthestFromCentre 13 = .ok (.iload_n 2, 1) := by decide +kernel
theorem dX7_farthestFromCentre_14 : decode cX7_farthestFromCentre 14 = .ok (.invokevirtual 81, 3) := by decide +kernel
theorem dX7_farthestFromCentre_17 : decode cX7_farthestFromCentre 17 = .ok (.aload_n 0, 1) := by decide +kernel
theorem dX7_farthestFromCentre_18 : decode cX7_farthestFromCentre 18 = .ok (.iload_n 1, 1) := by decide +kernel
theorem dX7_farthestFromCentre_19 : decode cX7_farthestFromCentre 19 = .ok (.invokevirtual 81, 3) := by decide +kernel
theorem dX7_farthestFromCentre_22 : decode cX7_farthestFromCentre 22 = .ok (.if_icmp .le 5, 3) := by decide +kernel
theorem dX7_farthestFromCentre_25 : decode cX7_farthestFromCentre 25 = .ok (.iload_n 2, 1) := by decide +kernel
theorem dX7_farthestFromCentre_26 : decode cX7_farthestFromCentre 26 = .ok (.istore_n 1, 1) := by decide +kernel
theorem dX7_farthestFromCentre_27 : decode cX7_farthestFromCentre 27 = .ok (.iinc 2 1, 3) := by decide +kernel
theorem dX7_farthestFromCentre_30 : decode cX7_farthestFromCentre 30 = .ok (.goto (-26), 3) := by decide +kernel
theorem dX7_farthestFromCentre_33 : decode cX7_farthestFromCentre 33 = .ok (.iload_n 1, 1) := by decide +kernel
theorem dX7_farthestFromCentre_34 : decode cX7_farthestFromCentre 34 = .ok (.ireturn, 1) := by decide +kernel
theorem dX7_gatherNearer_0 : decode cX7_gatherNearer 0 = .ok (.iconst 0, 1) := by decide +kernel
theorem dX7_gatherNearer_1 : decode cX7_gatherNearer 1 = .ok (.istore_n 2, 1) := by decide +kernel
theorem dX7_gatherNearer_2 : decode cX7_gatherNearer 2 = .ok (.iload_n 2, 1) := by decide +kernel
theorem dX7_gatherNearer_3 : decode cX7_gatherNearer 3 = .ok (.aload_n 0, 1) := by decide +kernel
theorem dX7_gatherNearer_4 : decode cX7_gatherNearer 4 = .ok (.getfield 9, 3) := by decide +kernel
theorem dX7_gatherNearer_7 : decode cX7_gatherNearer 7 = .ok (.if_icmp .ge 33, 3) := by decide +kernel
theorem dX7_gatherNearer_10 : decode cX7_gatherNearer 10 = .ok (.aload_n 0, 1) := by decide +kernel
theorem dX7_gatherNearer_11 : decode cX7_gatherNearer 11 = .ok (.iload_n 2, 1) := by decide +kernel
theorem dX7_gatherNearer_12 : decode cX7_gatherNearer 12 = .ok (.iload_n 1, 1) := by decide +kernel
theorem dX7_gatherNearer_13 : decode cX7_gatherNearer 13 = .ok (.invokevirtual 87, 3) := by decide +kernel
theorem dX7_gatherNearer_16 : decode cX7_gatherNearer 16 = .ok (.aload_n 0, 1) := by decide +kernel
theorem dX7_gatherNearer_17 : decode cX7_gatherNearer 17 = .ok (.iload_n 2, 1) := by decide +kernel
theorem dX7_gatherNearer_18 : decode cX7_gatherNearer 18 = .ok (.invokevirtual 81, 3) := by decide +kernel
theorem dX7_gatherNearer_21 : decode cX7_gatherNearer 21 = .ok (.if_icmp .ge 13, 3) := by decide +kernel
theorem dX7_gatherNearer_24 : decode cX7_gatherNearer 24 = .ok (.aload_n 0, 1) := by decide +kernel
theorem dX7_gatherNearer_25 : decode cX7_gatherNearer 25 = .ok (.getfield 31, 3) := by decide +kernel
theorem dX7_gatherNearer_28 : decode cX7_gatherNearer 28 = .ok (.getfield 71, 3) := by decide +kernel
theorem dX7_gatherNearer_31 : decode cX7_gatherNearer 31 = .ok (.iload_n 2, 1) := by decide +kernel
theorem dX7_gatherNearer_32 : decode cX7_gatherNearer 32 = .ok (.iload_n 1, 1) := by decide +kernel
theorem dX7_gatherNearer_33 : decode cX7_gatherNearer 33 = .ok (.iastore, 1) := by decide +kernel
theorem dX7_gatherNearer_34 : decode cX7_gatherNearer 34 = .ok (.iinc 2 1, 3) := by decide +kernel
theorem dX7_gatherNearer_37 : decode cX7_gatherNearer 37 = .ok (.goto (-35), 3) := by decide +kernel
theorem dX7_gatherNearer_40 : decode cX7_gatherNearer 40 = .ok (.return_, 1) := by decide +kernel
theorem dX8_init_0 : decode cX8_init 0 = .ok (.aload_n 0, 1) := by decide +kernel
theorem dX8_init_1 : decode cX8_init 1 = .ok (.invokespecial 3, 3) := by decide +kernel
theorem dX8_init_4 : decode cX8_init 4 = .ok (.aload_n 0, 1) := by decide +kernel
theorem dX8_init_5 : decode cX8_init 5 = .ok (.sipush 512, 3) := by decide +kernel
theorem dX8_init_8 : decode cX8_init 8 = .ok (.newarray .long, 2) := by decide +kernel
theorem dX8_init_10 : decode cX8_init 10 = .ok (.putfield 9, 3) := by decide +kernel
theorem dX8_init_13 : decode cX8_init 13 = .ok (.aload_n 0, 1) := by decide +kernel
theorem dX8_init_14 : decode cX8_init 14 = .ok (.bipush 12, 2) := by decide +kernel
theorem dX8_init_16 : decode cX8_init 16 = .ok (.newarray .int, 2) := by decide +kernel
theorem dX8_init_18 : decode cX8_init 18 = .ok (.putfield 15, 3) := by decide +kernel
theorem dX8_init_21 : decode cX8_init 21 = .ok (.aload_n 0, 1) := by decide +kernel
theorem dX8_init_22 : decode cX8_init 22 = .ok (.bipush 12, 2) := by decide +kernel
theorem dX8_init_24 : decode cX8_init 24 = .ok (.newarray .int, 2) := by decide +kernel
theorem dX8_init_26 : decode cX8_init 26 = .ok (.putfield 19, 3) := by decide +kernel
theorem dX8_init_29 : decode cX8_init 29 = .ok (.aload_n 0, 1) := by decide +kernel
theorem dX8_init_30 : decode cX8_init 30 = .ok (.lconst 0, 1) := by decide +kernel
theorem dX8_init_31 : decode cX8_init 31 = .ok (.putfield 22, 3) := by decide +kernel
theorem dX8_init_34 : decode cX8_init 34 = .ok (.aload_n 0, 1) := by decide +kernel
theorem dX8_init_35 : decode cX8_init 35 = .ok (.iconst 0, 1) := by decide +kernel
theorem dX8_init_36 : decode cX8_init 36 = .ok (.putfield 26, 3) := by decide +kernel
theorem dX8_init_39 : decode cX8_init 39 = .ok (.aload_n 0, 1) := by decide +kernel
theorem dX8_init_40 : decode cX8_init 40 = .ok (.iconst 0, 1) := by decide +kernel
theorem dX8_init_41 : decode cX8_init 41 = .ok (.putfield 30, 3) := by decide +kernel
theorem dX8_init_44 : decode cX8_init 44 = .ok (.aload_n 0, 1) := by decide +kernel
theorem dX8_init_45 : decode cX8_init 45 = .ok (.iconst 0, 1) := by decide +kernel
theorem dX8_init_46 : decode cX8_init 46 = .ok (.putfield 33, 3) := by decide +kernel
theorem dX8_init_49 : decode cX8_init 49 = .ok (.aload_n 0, 1) := by decide +kernel
theorem dX8_init_50 : decode cX8_init 50 = .ok (.aload_n 1, 1) := by decide +kernel
theorem dX8_init_51 : decode cX8_init 51 = .ok (.putfield 36, 3) := by decide +kernel
theorem dX8_init_54 : decode cX8_init 54 = .ok (.return_, 1) := by decide +kernel
theorem dX8_run_0 : decode cX8_run 0 = .ok (.aload_n 0, 1) := by decide +kernel
theorem dX8_run_1 : decode cX8_run 1 = .ok (.iload_n 1, 1) := by decide +kernel
theorem dX8_run_2 : decode cX8_run 2 = .ok (.putfield 26, 3) := by decide +kernel
theorem dX8_run_5 : decode cX8_run 5 = .ok (.aload_n 0, 1) := by decide +kernel
theorem dX8_run_6 : decode cX8_run 6 = .ok (.iload_n 2, 1) := by decide +kernel
theorem dX8_run_7 : decode cX8_run 7 = .ok (.putfield 30, 3) := by decide +kernel
theorem dX8_run_10 : decode cX8_run 10 = .ok (.aload_n 0, 1) := by decide +kernel
theorem dX8_run_11 : decode cX8_run 11 = .ok (.iload_n 3, 1) := by decide +kernel
theorem dX8_run_12 : decode cX8_run 12 = .ok (.putfield 33, 3) := by decide +kernel
theorem dX8_run_15 : decode cX8_run 15 = .ok (.aload_n 0, 1) := by decide +kernel
theorem dX8_run_16 : decode cX8_run 16 = .ok (.ldc2_w 42, 3) := by decide +kernel
theorem dX8_run_19 : decode cX8_run 19 = .ok (.putfield 22, 3) := by decide +kernel
theorem dX8_run_22 : decode cX8_run 22 = .ok (.aload_n 0, 1) := by decide +kernel
theorem dX8_run_23 : decode cX8_run 23 = .ok (.getfield 26, 3) := by decide +kernel
theorem dX8_run_26 : decode cX8_run 26 = .ok (.iconst 2, 1) := by decide +kernel
theorem dX8_run_27 : decode cX8_run 27 = .ok (.if_icmp .eq 7, 3) := by decide +kernel
theorem dX8_run_30 : decode cX8_run 30 = .ok (.aload_n 0, 1) := by decide +kernel
theorem dX8_run_31 : decode cX8_run 31 = .ok (.invokevirtual 44, 3) := by decide +kernel
theorem dX8_run_34 : decode cX8_run 34 = .ok (.aload_n 0, 1) := by decide +kernel
theorem dX8_run_35 : decode cX8_run 35 = .ok (.getfield 15, 3) := by decide +kernel
theorem dX8_run_38 : decode cX8_run 38 = .ok (.iconst 0, 1) := by decide +kernel
theorem dX8_run_39 : decode cX8_run 39 = .ok (.invokestatic 47, 3) := by decide +kernel
theorem dX8_run_42 : decode cX8_run 42 = .ok (.aload_n 0, 1) := by decide +kernel
theorem dX8_run_43 : decode cX8_run 43 = .ok (.iconst 0, 1) := by decide +kernel
theorem dX8_run_44 : decode cX8_run 44 = .ok (.iconst 0, 1) := by decide +kernel
theorem dX8_run_45 : decode cX8_run 45 = .ok (.aload_n 0, 1) := by decide +kernel
theorem dX8_run_46 : decode cX8_run 46 = .ok (.getfield 36, 3) := by decide +kernel
theorem dX8_run_49 : decode cX8_run 49 = .ok (.aload_n 0, 1) := by decide +kernel
theorem dX8_run_50 : decode cX8_run 50 = .ok (.getfield 26, 3) := by decide +kernel
theorem dX8_run_53 : decode cX8_run 53 = .ok (.invokestatic 53, 3) := by decide +kernel
theorem dX8_run_56 : decode cX8_run 56 = .ok (.invokevirtual 59, 3) := by decide +kernel
theorem dX8_run_59 : decode cX8_run 59 = .ok (.aload_n 0, 1) := by decide +kernel
theorem dX8_run_60 : decode cX8_run 60 = .ok (.getfield 22, 3) := by decide +kernel
theorem dX8_run_63 : decode cX8_run 63 = .ok (.lreturn, 1) := by decide +kernel
theorem dX8_costAllHeaps_0 : decode cX8_costAllHeaps 0 = .ok (.iconst 1, 1) := by decide +kernel
theorem dX8_costAllHeaps_1 : decode cX8_costAllHeaps 1 = .ok (.aload_n 0, 1) := by decide +kernel
theorem dX8_costAllHeaps_2 : decode cX8_costAllHeaps 2 = .ok (.getfield 36, 3) := by decide +kernel
theorem dX8_costAllHeaps_5 : decode cX8_costAllHeaps 5 = .ok (.getfield 63, 3) := by decide +kernel
theorem dX8_costAllHeaps_8 : decode cX8_costAllHeaps 8 = .ok (.ishl, 1) := by decide +kernel
theorem dX8_costAllHeaps_9 : decode cX8_costAllHeaps 9 = .ok (.aload_n 0, 1) := by decide +kernel
theorem dX8_costAllHeaps_10 : decode cX8_costAllHeaps 10 = .ok (.getfield 9, 3) := by decide +kernel
theorem dX8_costAllHeaps_13 : decode cX8_costAllHeaps 13 = .ok (.arraylength, 1) := by decide +kernel
theorem dX8_costAllHeaps_14 : decode cX8_costAllHeaps 14 = .ok (.invokestatic 68, 3) := by decide +kernel
theorem dX8_costAllHeaps_17 : decode cX8_costAllHeaps 17 = .ok (.istore_n 1, 1) := by decide +kernel
theorem dX8_costAllHeaps_18 : decode cX8_costAllHeaps 18 = .ok (.iconst 0, 1) := by decide +kernel
theorem dX8_costAllHeaps_19 : decode cX8_costAllHeaps 19 = .ok (.istore_n 2, 1) := by decide +kernel
theorem dX8_costAllHeaps_20 : decode cX8_costAllHeaps 20 = .ok (.iload_n 2, 1) := by decide +kernel
theorem dX8_costAllHeaps_21 : decode cX8_costAllHeaps 21 = .ok (.iload_n 1, 1) := by decide +kernel
theorem dX8_costAllHeaps_22 : decode cX8_costAllHeaps 22 = .ok (.if_icmp .ge 27, 3) := by decide +kernel
theorem dX8_costAllHeaps_25 : decode cX8_costAllHeaps 25 = .ok (.aload_n 0, 1) := by decide +kernel
theorem dX8_costAllHeaps_26 : decode cX8_costAllHeaps 26 = .ok (.getfield 9, 3) := by decide +kernel
theorem dX8_costAllHeaps_29 : decode cX8_costAllHeaps 29 = .ok (.iload_n 2, 1) := by decide +kernel
theorem dX8_costAllHeaps_30 : decode cX8_costAllHeaps 30 = .ok (.aload_n 0, 1) := by decide +kernel
theorem dX8_costAllHeaps_31 : decode cX8_costAllHeaps 31 = .ok (.getfield 36, 3) := by decide +kernel
theorem dX8_costAllHeaps_34 : decode cX8_costAllHeaps 34 = .ok (.aload_n 0, 1) := by decide +kernel
theorem dX8_costAllHeaps_35 : decode cX8_costAllHeaps 35 = .ok (.getfield 26, 3) := by decide +kernel
theorem dX8_costAllHeaps_38 : decode cX8_costAllHeaps 38 = .ok (.iload_n 2, 1) := by decide +kernel
theorem dX8_costAllHeaps_39 : decode cX8_costAllHeaps 39 = .ok (.invokestatic 74, 3) := by decide +kernel
theorem dX8_costAllHeaps_42 : decode cX8_costAllHeaps 42 = .ok (.lastore, 1) := by decide +kernel
theorem dX8_costAllHeaps_43 : decode cX8_costAllHeaps 43 = .ok (.iinc 2 1, 3) := by decide +kernel
theorem dX8_costAllHeaps_46 : decode cX8_costAllHeaps 46 = .ok (.goto (-26), 3) := by decide +kernel
theorem dX8_costAllHeaps_49 : decode cX8_costAllHeaps 49 = .ok (.return_, 1) := by decide +kernel
theorem dX8_descend_0 : decode cX8_descend 0 = .ok (.iload_n 1, 1) := by decide +kernel
theorem dX8_descend_1 : decode cX8_descend 1 = .ok (.aload_n 0, 1) := by decide +kernel
theorem dX8_descend_2 : decode cX8_descend 2 = .ok (.getfield 36, 3) := by decide +kernel
theorem dX8_descend_5 : decode cX8_descend 5 = .ok (.getfield 63, 3) := by decide +kernel
theorem dX8_descend_8 : decode cX8_descend 8 = .ok (.if_icmp .ge 9, 3) := by decide +kernel
theorem dX8_descend_11 : decode cX8_descend 11 = .ok (.iload_n 1, 1) := by decide +kernel
theorem dX8_descend_12 : decode cX8_descend 12 = .ok (.bipush 12, 2) := by decide +kernel
theorem dX8_descend_14 : decode cX8_descend 14 = .ok (.if_icmp .lt 10, 3) := by decide +kernel
theorem dX8_descend_17 : decode cX8_descend 17 = .ok (.aload_n 0, 1) := by decide +kernel
theorem dX8_descend_18 : decode cX8_descend 18 = .ok (.iload_n 2, 1) := by decide +kernel
theorem dX8_descend_19 : decode cX8_descend 19 = .ok (.lload_n 3, 1) := by decide +kernel
theorem dX8_descend_20 : decode cX8_descend 20 = .ok (.invokevirtual 78, 3) := by decide +kernel
theorem dX8_descend_23 : decode cX8_descend 23 = .ok (.return_, 1) := by decide +kernel
theorem dX8_descend_24 : decode cX8_descend 24 = .ok (.iload_n 2, 1) := by decide +kernel
theorem dX8_descend_25 : decode cX8_descend 25 = .ok (.aload_n 0, 1) := by decide +kernel
theorem dX8_descend_26 : decode cX8_descend 26 = .ok (.getfield 36, 3) := by decide +kernel
theorem dX8_descend_29 : decode cX8_descend 29 = .ok (.getfield 63, 3) := by decide +kernel
theorem dX8_descend_32 : decode cX8_descend 32 = .ok (.iadd, 1) := by decide +kernel
theorem dX8_descend_33 : decode cX8_descend 33 = .ok (.iload_n 1, 1) := by decide +kernel
theorem dX8_descend_34 : decode cX8_descend 34 = .ok (.isub, 1) := by decide +kernel
theorem dX8_descend_35 : decode cX8_descend 35 = .ok (.aload_n 0, 1) := by decide +kernel
theorem dX8_descend_36 : decode cX8_descend 36 = .ok (.getfield 30, 3) := by decide +kernel
theorem dX8_descend_39 : decode cX8_descend 39 = .ok (.if_icmp .ge 4, 3) := by decide +kernel
theorem dX8_descend_42 : decode cX8_descend 42 = .ok (.return_, 1) := by decide +kernel
theorem dX8_descend_43 : decode cX8_descend 43 = .ok (.iload_n 2, 1) := by decide +kernel
theorem dX8_descend_44 : decode cX8_descend 44 = .ok (.aload_n 0, 1) := by decide +kernel
theorem dX8_descend_45 : decode cX8_descend 45 = .ok (.getfield 33, 3) := by decide +kernel
theorem dX8_descend_48 : decode cX8_descend 48 = .ok (.iconst 1, 1) := by decide +kernel
theorem dX8_descend_49 : decode cX8_descend 49 = .ok (.isub, 1) := by decide +kernel
theorem dX8_descend_50 : decode cX8_descend 50 = .ok (.invokestatic 68, 3) := by decide +kernel
theorem dX8_descend_53 : decode cX8_descend 53 = .ok (.istore 5, 2) := by decide +kernel
theorem dX8_descend_55 : decode cX8_descend 55 = .ok (.iconst 0, 1) := by decide +kernel
theorem dX8_descend_56 : decode cX8_descend 56 = .ok (.istore 6, 2) := by decide +kernel
theorem dX8_descend_58 : decode cX8_descend 58 = .ok (.iload 6, 2) := by decide +kernel
theorem dX8_descend_60 : decode cX8_descend 60 = .ok (.iload 5, 2) := by decide +kernel
theorem dX8_descend_62 : decode cX8_descend 62 = .ok (.if_icmp .gt 108, 3) := by decide +kernel
theorem dX8_descend_65 : decode cX8_descend 65 = .ok (.iload 6, 2) := by decide +kernel
theorem dX8_descend_67 : decode cX8_descend 67 = .ok (.bipush 12, 2) := by decide +kernel
theorem dX8_descend_69 : decode cX8_descend 69 = .ok (.if_icmp .ge 101, 3) := by decide +kernel
theorem dX8_descend_72 : decode cX8_descend 72 = .ok (.aload_n 0, 1) := by decide +kernel
theorem dX8_descend_73 : decode cX8_descend 73 = .ok (.getfield 15, 3) := by decide +kernel
theorem dX8_descend_76 : decode cX8_descend 76 = .ok (.iload 6, 2) := by decide +kernel
theorem dX8_descend_78 : decode cX8_descend 78 = .ok (.iaload, 1) := by decide +kernel
theorem dX8_descend_79 : decode cX8_descend 79 = .ok (.istore 7, 2) := by decide +kernel
theorem dX8_descend_81 : decode cX8_descend 81 = .ok (.aload_n 0, 1) := by decide +kernel
theorem dX8_descend_82 : decode cX8_descend 82 = .ok (.lload_n 3, 1) := by decide +kernel
theorem dX8_descend_83 : decode cX8_descend 83 = .ok (.iload 7, 2) := by decide +kernel
theorem dX8_descend_85 : decode cX8_descend 85 = .ok (.iload_n 1, 1) := by decide +kernel
theorem dX8_descend_86 : decode cX8_descend 86 = .ok (.invokevirtual 82, 3) := by decide +kernel
theorem dX8_descend_89 : decode cX8_descend 89 = .ok (.lstore 8, 2) := by decide +kernel
theorem dX8_descend_91 : decode cX8_descend 91 = .ok (.aload_n 0, 1) := by decide +kernel
theorem dX8_descend_92 : decode cX8_descend 92 = .ok (.getfield 26, 3) := by decide +kernel
theorem dX8_descend_95 : decode cX8_descend 95 = .ok (.iconst 2, 1) := by decide +kernel
theorem dX8_descend_96 : decode cX8_descend 96 = .ok (.if_icmp .ne 16, 3) := by decide +kernel
theorem dX8_descend_99 : decode cX8_descend 99 = .ok (.lload 8, 2) := by decide +kernel
theorem dX8_descend_101 : decode cX8_descend 101 = .ok (.aload_n 0, 1) := by decide +kernel
theorem dX8_descend_102 : decode cX8_descend 102 = .ok (.getfield 22, 3) := by decide +kernel
theorem dX8_descend_105 : decode cX8_descend 105 = .ok (.lcmp, 1) := by decide +kernel
theorem dX8_descend_106 : decode cX8_descend 106 = .ok (.ifCond .lt 6, 3) := by decide +kernel
theorem dX8_descend_109 : decode cX8_descend 109 = .ok (.goto 55, 3) := by decide +kernel
theorem dX8_descend_112 : decode cX8_descend 112 = .ok (.aload_n 0, 1) := by decide +kernel
theorem dX8_descend_113 : decode cX8_descend 113 = .ok (.getfield 15, 3) := by decide +kernel
theorem dX8_descend_116 : decode cX8_descend 116 = .ok (.iload 6, 2) := by decide +kernel
theorem dX8_descend_118 : decode cX8_descend 118 = .ok (.iload 7, 2) := by decide +kernel
theorem dX8_descend_120 : decode cX8_descend 120 = .ok (.iconst 1, 1) := by decide +kernel
theorem dX8_descend_121 : decode cX8_descend 121 = .ok (.iload_n 1, 1) := by decide +kernel
theorem dX8_descend_122 : decode cX8_descend 122 = .ok (.ishl, 1) := by decide +kernel
theorem dX8_descend_123 : decode cX8_descend 123 = .ok (.ior, 1) := by decide +kernel
theorem dX8_descend_124 : decode cX8_descend 124 = .ok (.iastore, 1) := by decide +kernel
theorem dX8_descend_125 : decode cX8_descend 125 = .ok (.aload_n 0, 1) := by decide +kernel
theorem dX8_descend_126 : decode cX8_descend 126 = .ok (.getfield 19, 3) := by decide +kernel
theorem dX8_descend_129 : decode cX8_descend 129 = .ok (.iload_n 1, 1) := by decide +kernel
theorem dX8_descend_130 : decode cX8_descend 130 = .ok (.iload 6, 2) := by decide +kernel
theorem dX8_descend_132 : decode cX8_descend 132 = .ok (.iastore, 1) := by decide +kernel
theorem dX8_descend_133 : decode cX8_descend 133 = .ok (.aload_n 0, 1) := by decide +kernel
theorem dX8_descend_134 : decode cX8_descend 134 = .ok (.iload_n 1, 1) := by decide +kernel
theorem dX8_descend_135 : decode cX8_descend 135 = .ok (.iconst 1, 1) := by decide +kernel
theorem dX8_descend_136 : decode cX8_descend 136 = .ok (.iadd, 1) := by decide +kernel
theorem dX8_descend_137 : decode cX8_descend 137 = .ok (.iload 6, 2) := by decide +kernel
theorem dX8_descend_139 : decode cX8_descend 139 = .ok (.iload_n 2, 1) := by decide +kernel
theorem dX8_descend_140 : decode cX8_descend 140 = .ok (.if_icmp .ne 9, 3) := by decide +kernel
theorem dX8_descend_143 : decode cX8_descend 143 = .ok (.iload_n 2, 1) := by decide +kernel
theorem dX8_descend_144 : decode cX8_descend 144 = .ok (.iconst 1, 1) := by decide +kernel
theorem dX8_descend_145 : decode cX8_descend 145 = .ok (.iadd, 1) := by decide +kernel
theorem dX8_descend_146 : decode cX8_descend 146 = .ok (.goto 4, 3) := by decide +kernel
theorem dX8_descend_149 : decode cX8_descend 149 = .ok (.iload_n 2, 1) := by decide +kernel
theorem dX8_descend_150 : decode cX8_descend 150 = .ok (.lload 8, 2) := by decide +kernel
theorem dX8_descend_152 : decode cX8_descend 152 = .ok (.invokevirtual 59, 3) := by decide +kernel
theorem dX8_descend_155 : decode cX8_descend 155 = .ok (.aload_n 0, 1) := by decide +kernel
theorem dX8_descend_156 : decode cX8_descend 156 = .ok (.getfield 15, 3) := by decide +kernel
theorem dX8_descend_159 : decode cX8_descend 159 = .ok (.iload 6, 2) := by decide +kernel
theorem dX8_descend_161 : decode cX8_descend 161 = .ok (.iload 7, 2) := by decide +kernel
theorem dX8_descend_163 : decode cX8_descend 163 = .ok (.iastore, 1) := by decide +kernel
theorem dX8_descend_164 : decode cX8_descend 164 = .ok (.iinc 6 1, 3) := by decide +kernel
theorem dX8_descend_167 : decode cX8_descend 167 = .ok (.goto (-109), 3) := by decide +kernel
theorem dX8_descend_170 : decode cX8_descend 170 = .ok (.return_, 1) := by decide +kernel
theorem dX8_grown_0 : decode cX8_grown 0 = .ok (.aload_n 0, 1) := by decide +kernel
theorem dX8_grown_1 : decode cX8_grown 1 = .ok (.getfield 26, 3) := by decide +kernel
theorem dX8_grown_4 : decode cX8_grown 4 = .ok (.iconst 2, 1) := by decide +kernel
theorem dX8_grown_5 : decode cX8_grown 5 = .ok (.if_icmp .ne 21, 3) := by decide +kernel
theorem dX8_grown_8 : decode cX8_grown 8 = .ok (.lload_n 1, 1) := by decide +kernel
theorem dX8_grown_9 : decode cX8_grown 9 = .ok (.aload_n 0, 1) := by decide +kernel
theorem dX8_grown_10 : decode cX8_grown 10 = .ok (.getfield 36, 3) := by decide +kernel
theorem dX8_grown_13 : decode cX8_grown 13 = .ok (.iload 4, 2) := by decide +kernel
theorem dX8_grown_15 : decode cX8_grown 15 = .ok (.iload_n 3, 1) := by decide +kernel
theorem dX8_grown_16 : decode cX8_grown 16 = .ok (.iload 4, 2) := by decide +kernel
theorem dX8_grown_18 : decode cX8_grown 18 = .ok (.invokestatic 86, 3) := by decide +kernel
theorem dX8_grown_21 : decode cX8_grown 21 = .ok (.i2l, 1) := by decide +kernel
theorem dX8_grown_22 : decode cX8_grown 22 = .ok (.invokestatic 90, 3) := by decide +kernel
theorem dX8_grown_25 : decode cX8_grown 25 = .ok (.lreturn, 1) := by decide +kernel
theorem dX8_grown_26 : decode cX8_grown 26 = .ok (.iload_n 3, 1) := by decide +kernel
theorem dX8_grown_27 : decode cX8_grown 27 = .ok (.iconst 1, 1) := by decide +kernel
theorem dX8_grown_28 : decode cX8_grown 28 = .ok (.iload 4, 2) := by decide +kernel
theorem dX8_grown_30 : decode cX8_grown 30 = .ok (.ishl, 1) := by decide +kernel
theorem dX8_grown_31 : decode cX8_grown 31 = .ok (.ior, 1) := by decide +kernel
theorem dX8_grown_32 : decode cX8_grown 32 = .ok (.istore 5, 2) := by decide +kernel
theorem dX8_grown_34 : decode cX8_grown 34 = .ok (.iload 5, 2) := by decide +kernel
theorem dX8_grown_36 : decode cX8_grown 36 = .ok (.aload_n 0, 1) := by decide +kernel
theorem dX8_grown_37 : decode cX8_grown 37 = .ok (.getfield 9, 3) := by decide +kernel
theorem dX8_grown_40 : decode cX8_grown 40 = .ok (.arraylength, 1) := by decide +kernel
theorem dX8_grown_41 : decode cX8_grown 41 = .ok (.if_icmp .lt 5, 3) := by decide +kernel
theorem dX8_grown_44 : decode cX8_grown 44 = .ok (.lload_n 1, 1) := by decide +kernel
theorem dX8_grown_45 : decode cX8_grown 45 = .ok (.lreturn, 1) := by decide +kernel
theorem dX8_grown_46 : decode cX8_grown 46 = .ok (.lload_n 1, 1) := by decide +kernel
theorem dX8_grown_47 : decode cX8_grown 47 = .ok (.aload_n 0, 1) := by decide +kernel
theorem dX8_grown_48 : decode cX8_grown 48 = .ok (.getfield 9, 3) := by decide +kernel
theorem dX8_grown_51 : decode cX8_grown 51 = .ok (.iload_n 3, 1) := by decide +kernel
theorem dX8_grown_52 : decode cX8_grown 52 = .ok (.laload, 1) := by decide +kernel
theorem dX8_grown_53 : decode cX8_grown 53 = .ok (.lsub, 1) := by decide +kernel
theorem dX8_grown_54 : decode cX8_grown 54 = .ok (.aload_n 0, 1) := by decide +kernel
theorem dX8_grown_55 : decode cX8_grown 55 = .ok (.getfield 9, 3) := by decide +kernel
theorem dX8_grown_58 : decode cX8_grown 58 = .ok (.iload 5, 2) := by decide +kernel
theorem dX8_grown_60 : decode cX8_grown 60 = .ok (.laload, 1) := by decide +kernel
theorem dX8_grown_61 : decode cX8_grown 61 = .ok (.ladd, 1) := by decide +kernel
theorem dX8_grown_62 : decode cX8_grown 62 = .ok (.lreturn, 1) := by decide +kernel
theorem dX8_take_0 : decode cX8_take 0 = .ok (.iload_n 1, 1) := by decide +kernel
theorem dX8_take_1 : decode cX8_take 1 = .ok (.aload_n 0, 1) := by decide +kernel
theorem dX8_take_2 : decode cX8_take 2 = .ok (.getfield 30, 3) := by decide +kernel
theorem dX8_take_5 : decode cX8_take 5 = .ok (.if_icmp .lt 12, 3) := by decide +kernel
theorem dX8_take_8 : decode cX8_take 8 = .ok (.lload_n 2, 1) := by decide +kernel
theorem dX8_take_9 : decode cX8_take 9 = .ok (.aload_n 0, 1) := by decide +kernel
theorem dX8_take_10 : decode cX8_take 10 = .ok (.getfield 22, 3) := by decide +kernel
theorem dX8_take_13 : decode cX8_take 13 = .ok (.lcmp, 1) := by decide +kernel
theorem dX8_take_14 : decode cX8_take 14 = .ok (.ifCond .lt 4, 3) := by decide +kernel
theorem dX8_take_17 : decode cX8_take 17 = .ok (.return_, 1) := by decide +kernel
theorem dX8_take_18 : decode cX8_take 18 = .ok (.aload_n 0, 1) := by decide +kernel
theorem dX8_take_19 : decode cX8_take 19 = .ok (.lload_n 2, 1) := by decide +kernel
theorem dX8_take_20 : decode cX8_take 20 = .ok (.putfield 22, 3) := by decide +kernel
theorem dX8_take_23 : decode cX8_take 23 = .ok (.aload_n 0, 1) := by decide +kernel
theorem dX8_take_24 : decode cX8_take 24 = .ok (.getfield 19, 3) := by decide +kernel
theorem dX8_take_27 : decode cX8_take 27 = .ok (.iconst 0, 1) := by decide +kernel
theorem dX8_take_28 : decode cX8_take 28 = .ok (.aload_n 0, 1) := by decide +kernel
theorem dX8_take_29 : decode cX8_take 29 = .ok (.getfield 36, 3) := by decide +kernel
theorem dX8_take_32 : decode cX8_take 32 = .ok (.getfield 94, 3) := by decide +kernel
theorem dX8_take_35 : decode cX8_take 35 = .ok (.getfield 98, 3) := by decide +kernel
theorem dX8_take_38 : decode cX8_take 38 = .ok (.iconst 0, 1) := by decide +kernel
theorem dX8_take_39 : decode cX8_take 39 = .ok (.aload_n 0, 1) := by decide +kernel
theorem dX8_take_40 : decode cX8_take 40 = .ok (.getfield 36, 3) := by decide +kernel
theorem dX8_take_43 : decode cX8_take 43 = .ok (.getfield 63, 3) := by decide +kernel
theorem dX8_take_46 : decode cX8_take 46 = .ok (.invokestatic 101, 3) := by decide +kernel
theorem dX8_take_49 : decode cX8_take 49 = .ok (.aload_n 0, 1) := by decide +kernel
theorem dX8_take_50 : decode cX8_take 50 = .ok (.getfield 36, 3) := by decide +kernel
theorem dX8_take_53 : decode cX8_take 53 = .ok (.getfield 94, 3) := by decide +kernel
theorem dX8_take_56 : decode cX8_take 56 = .ok (.iload_n 1, 1) := by decide +kernel
theorem dX8_take_57 : decode cX8_take 57 = .ok (.putfield 107, 3) := by decide +kernel
theorem dX8_take_60 : decode cX8_take 60 = .ok (.return_, 1) := by decide +kernel
theorem dX9_init_0 : decode cX9_init 0 = .ok (.aload_n 0, 1) := by decide +kernel
theorem dX9_init_1 : decode cX9_init 1 = .ok (.invokespecial 3, 3) := by decide +kernel
theorem dX9_init_4 : decode cX9_init 4 = .ok (.aload_n 0, 1) := by decide +kernel
theorem dX9_init_5 : decode cX9_init 5 = .ok (.iconst (-1), 1) := by decide +kernel
theorem dX9_init_6 : decode cX9_init 6 = .ok (.putfield 9, 3) := by decide +kernel
theorem dX9_init_9 : decode cX9_init 9 = .ok (.aload_n 0, 1) := by decide +kernel
theorem dX9_init_10 : decode cX9_init 10 = .ok (.iconst (-1), 1) := by decide +kernel
theorem dX9_init_11 : decode cX9_init 11 = .ok (.putfield 15, 3) := by decide +kernel
theorem dX9_init_14 : decode cX9_init 14 = .ok (.aload_n 0, 1) := by decide +kernel
theorem dX9_init_15 : decode cX9_init 15 = .ok (.bipush 8, 2) := by decide +kernel
theorem dX9_init_17 : decode cX9_init 17 = .ok (.newarray .long, 2) := by decide +kernel
theorem dX9_init_19 : decode cX9_init 19 = .ok (.putfield 18, 3) := by decide +kernel
theorem dX9_init_22 : decode cX9_init 22 = .ok (.return_, 1) := by decide +kernel
theorem dX9_renew_0 : decode cX9_renew 0 = .ok (.aload_n 0, 1) := by decide +kernel
theorem dX9_renew_1 : decode cX9_renew 1 = .ok (.iload_n 1, 1) := by decide +kernel
theorem dX9_renew_2 : decode cX9_renew 2 = .ok (.putfield 9, 3) := by decide +kernel
theorem dX9_renew_5 : decode cX9_renew 5 = .ok (.aload_n 0, 1) := by decide +kernel
theorem dX9_renew_6 : decode cX9_renew 6 = .ok (.iload_n 2, 1) := by decide +kernel
theorem dX9_renew_7 : decode cX9_renew 7 = .ok (.putfield 15, 3) := by decide +kernel
theorem dX9_renew_10 : decode cX9_renew 10 = .ok (.aload_n 0, 1) := by decide +kernel
theorem dX9_renew_11 : decode cX9_renew 11 = .ok (.getfield 18, 3) := by decide +kernel
theorem dX9_renew_14 : decode cX9_renew 14 = .ok (.lconst 0, 1) := by decide +kernel
theorem dX9_renew_15 : decode cX9_renew 15 = .ok (.invokestatic 22, 3) := by decide +kernel
theorem dX9_renew_18 : decode cX9_renew 18 = .ok (.return_, 1) := by decide +kernel
theorem dX9_drop_0 : decode cX9_drop 0 = .ok (.aload_n 0, 1) := by decide +kernel
theorem dX9_drop_1 : decode cX9_drop 1 = .ok (.iconst (-1), 1) := by decide +kernel
theorem dX9_drop_2 : decode cX9_drop 2 = .ok (.iconst (-1), 1) := by decide +kernel
theorem dX9_drop_3 : decode cX9_drop 3 = .ok (.invokevirtual 28, 3) := by decide +kernel
theorem dX9_drop_6 : decode cX9_drop 6 = .ok (.return_, 1) := by decide +kernel
theorem dX9_write_0 : decode cX9_write 0 = .ok (.aload_n 0, 1) := by decide +kernel
theorem dX9_write_1 : decode cX9_write 1 = .ok (.getfield 9, 3) := by decide +kernel
theorem dX9_write_4 : decode cX9_write 4 = .ok (.tableswitch 66 0 2 #[28, 41, 54], 28) := by decide +kernel
theorem dX9_write_32 : decode cX9_write 32 = .ok (.aload_n 0, 1) := by decide +kernel
theorem dX9_write_33 : decode cX9_write 33 = .ok (.getfield 18, 3) := by decide +kernel
theorem dX9_write_36 : decode cX9_write 36 = .ok (.iload_n 1, 1) := by decide +kernel
theorem dX9_write_37 : decode cX9_write 37 = .ok (.lload_n 2, 1) := by decide +kernel
theorem dX9_write_38 : decode cX9_write 38 = .ok (.l2i, 1) := by decide +kernel
theorem dX9_write_39 : decode cX9_write 39 = .ok (.i2b, 1) := by decide +kernel
theorem dX9_write_40 : decode cX9_write 40 = .ok (.i2l, 1) := by decide +kernel
theorem dX9_write_41 : decode cX9_write 41 = .ok (.lastore, 1) := by decide +kernel
theorem dX9_write_42 : decode cX9_write 42 = .ok (.goto 35, 3) := by decide +kernel
theorem dX9_write_45 : decode cX9_write 45 = .ok (.aload_n 0, 1) := by decide +kernel
theorem dX9_write_46 : decode cX9_write 46 = .ok (.getfield 18, 3) := by decide +kernel
theorem dX9_write_49 : decode cX9_write 49 = .ok (.iload_n 1, 1) := by decide +kernel
theorem dX9_write_50 : decode cX9_write 50 = .ok (.lload_n 2, 1) := by decide +kernel
theorem dX9_write_51 : decode cX9_write 51 = .ok (.l2i, 1) := by decide +kernel
theorem dX9_write_52 : decode cX9_write 52 = .ok (.i2s, 1) := by decide +kernel
theorem dX9_write_53 : decode cX9_write 53 = .ok (.i2l, 1) := by decide +kernel
theorem dX9_write_54 : decode cX9_write 54 = .ok (.lastore, 1) := by decide +kernel
theorem dX9_write_55 : decode cX9_write 55 = .ok (.goto 22, 3) := by decide +kernel
theorem dX9_write_58 : decode cX9_write 58 = .ok (.aload_n 0, 1) := by decide +kernel
theorem dX9_write_59 : decode cX9_write 59 = .ok (.getfield 18, 3) := by decide +kernel
theorem dX9_write_62 : decode cX9_write 62 = .ok (.iload_n 1, 1) := by decide +kernel
theorem dX9_write_63 : decode cX9_write 63 = .ok (.lload_n 2, 1) := by decide +kernel
theorem dX9_write_64 : decode cX9_write 64 = .ok (.l2i, 1) := by decide +kernel
theorem dX9_write_65 : decode cX9_write 65 = .ok (.i2l, 1) := by decide +kernel
theorem dX9_write_66 : decode cX9_write 66 = .ok (.lastore, 1) := by decide +kernel
theorem dX9_write_67 : decode cX9_write 67 = .ok (.goto 10, 3) := by decide +kernel
theorem dX9_write_70 : decode cX9_write 70 = .ok (.aload_n 0, 1) := by decide +kernel
theorem dX9_write_71 : decode cX9_write 71 = .ok (.getfield 18, 3) := by decide +kernel
theorem dX9_write_74 : decode cX9_write 74 = .ok (.iload_n 1, 1) := by decide +kernel
theorem dX9_write_75 : decode cX9_write 75 = .ok (.lload_n 2, 1) := by decide +kernel
theorem dX9_write_76 : decode cX9_write 76 = .ok (.lastore, 1) := by decide +kernel
theorem dX9_write_77 : decode cX9_write 77 = .ok (.return_, 1) := by decide +kernel
theorem dX9_isPlace_0 : decode cX9_isPlace 0 = .ok (.iconst 0, 1) := by decide +kernel
theorem dX9_isPlace_1 : decode cX9_isPlace 1 = .ok (.istore_n 1, 1) := by decide +kernel
theorem dX9_isPlace_2 : decode cX9_isPlace 2 = .ok (.iload_n 1, 1) := by decide +kernel
theorem dX9_isPlace_3 : decode cX9_isPlace 3 = .ok (.iconst 4, 1) := by decide +kernel
theorem dX9_isPlace_4 : decode cX9_isPlace 4 = .ok (.if_icmp .ge 37, 3) := by decide +kernel
theorem dX9_isPlace_7 : decode cX9_isPlace 7 = .ok (.aload_n 0, 1) := by decide +kernel
theorem dX9_isPlace_8 : decode cX9_isPlace 8 = .ok (.getfield 18, 3) := by decide +kernel
theorem dX9_isPlace_11 : decode cX9_isPlace 11 = .ok (.iload_n 1, 1) := by decide +kernel
theorem dX9_isPlace_12 : decode cX9_isPlace 12 = .ok (.laload, 1) := by decide +kernel
theorem dX9_isPlace_13 : decode cX9_isPlace 13 = .ok (.ldc2_w 32, 3) := by decide +kernel
theorem dX9_isPlace_16 : decode cX9_isPlace 16 = .ok (.lcmp, 1) := by decide +kernel
theorem dX9_isPlace_17 : decode cX9_isPlace 17 = .ok (.ifCond .lt 16, 3) := by decide +kernel
theorem dX9_isPlace_20 : decode cX9_isPlace 20 = .ok (.aload_n 0, 1) := by decide +kernel
theorem dX9_isPlace_21 : decode cX9_isPlace 21 = .ok (.getfield 18, 3) := by decide +kernel
theorem dX9_isPlace_24 : decode cX9_isPlace 24 = .ok (.iload_n 1, 1) := by decide +kernel
theorem dX9_isPlace_25 : decode cX9_isPlace 25 = .ok (.laload, 1) := by decide +kernel
theorem dX9_isPlace_26 : decode cX9_isPlace 26 = .ok (.ldc2_w 34, 3) := by decide +kernel
theorem dX9_isPlace_29 : decode cX9_isPlace 29 = .ok (.lcmp, 1) := by decide +kernel
theorem dX9_isPlace_30 : decode cX9_isPlace 30 = .ok (.ifCond .le 5, 3) := by decide +kernel
theorem dX9_isPlace_33 : decode cX9_isPlace 33 = .ok (.iconst 0, 1) := by decide +kernel
theorem dX9_isPlace_34 : decode cX9_isPlace 34 = .ok (.ireturn, 1) := by decide +kernel
theorem dX9_isPlace_35 : decode cX9_isPlace 35 = .ok (.iinc 1 1, 3) := by decide +kernel
theorem dX9_isPlace_38 : decode cX9_isPlace 38 = .ok (.goto (-36), 3) := by decide +kernel
theorem dX9_isPlace_41 : decode cX9_isPlace 41 = .ok (.iconst 1, 1) := by decide +kernel
theorem dX9_isPlace_42 : decode cX9_isPlace 42 = .ok (.ireturn, 1) := by decide +kernel
theorem dX10_init_0 : decode cX10_init 0 = .ok (.aload_n 0, 1) := by decide +kernel
theorem dX10_init_1 : decode cX10_init 1 = .ok (.invokespecial 3, 3) := by decide +kernel
theorem dX10_init_4 : decode cX10_init 4 = .ok (.aload_n 0, 1) := by decide +kernel
theorem dX10_init_5 : decode cX10_init 5 = .ok (.iconst (-1), 1) := by decide +kernel
theorem dX10_init_6 : decode cX10_init 6 = .ok (.putfield 9, 3) := by decide +kernel
theorem dX10_init_9 : decode cX10_init 9 = .ok (.aload_n 0, 1) := by decide +kernel
theorem dX10_init_10 : decode cX10_init 10 = .ok (.iconst 0, 1) := by decide +kernel
theorem dX10_init_11 : decode cX10_init 11 = .ok (.putfield 15, 3) := by decide +kernel
theorem dX10_init_14 : decode cX10_init 14 = .ok (.aload_n 0, 1) := by decide +kernel
theorem dX10_init_15 : decode cX10_init 15 = .ok (.bipush 12, 2) := by decide +kernel
theorem dX10_init_17 : decode cX10_init 17 = .ok (.newarray .int, 2) := by decide +kernel
theorem dX10_init_19 : decode cX10_init 19 = .ok (.putfield 18, 3) := by decide +kernel
theorem dX10_init_22 : decode cX10_init 22 = .ok (.aload_n 0, 1) := by decide +kernel
theorem dX10_init_23 : decode cX10_init 23 = .ok (.bipush 12, 2) := by decide +kernel
theorem dX10_init_25 : decode cX10_init 25 = .ok (.newarray .int, 2) := by decide +kernel
theorem dX10_init_27 : decode cX10_init 27 = .ok (.putfield 22, 3) := by decide +kernel
theorem dX10_init_30 : decode cX10_init 30 = .ok (.aload_n 0, 1) := by decide +kernel
theorem dX10_init_31 : decode cX10_init 31 = .ok (.bipush 12, 2) := by decide +kernel
theorem dX10_init_33 : decode cX10_init 33 = .ok (.newarray .int, 2) := by decide +kernel
theorem dX10_init_35 : decode cX10_init 35 = .ok (.putfield 25, 3) := by decide +kernel
theorem dX10_init_38 : decode cX10_init 38 = .ok (.aload_n 0, 1) := by decide +kernel
theorem dX10_init_39 : decode cX10_init 39 = .ok (.sipush 144, 3) := by decide +kernel
theorem dX10_init_42 : decode cX10_init 42 = .ok (.newarray .int, 2) := by decide +kernel
theorem dX10_init_44 : decode cX10_init 44 = .ok (.putfield 28, 3) := by decide +kernel
theorem dX10_init_47 : decode cX10_init 47 = .ok (.aload_n 0, 1) := by decide +kernel
theorem dX10_init_48 : decode cX10_init 48 = .ok (.iconst 0, 1) := by decide +kernel
theorem dX10_init_49 : decode cX10_init 49 = .ok (.putfield 31, 3) := by decide +kernel
theorem dX10_init_52 : decode cX10_init 52 = .ok (.return_, 1) := by decide +kernel
theorem dX10_drop_0 : decode cX10_drop 0 = .ok (.aload_n 0, 1) := by decide +kernel
theorem dX10_drop_1 : decode cX10_drop 1 = .ok (.iconst (-1), 1) := by decide +kernel
theorem dX10_drop_2 : decode cX10_drop 2 = .ok (.putfield 9, 3) := by decide +kernel
theorem dX10_drop_5 : decode cX10_drop 5 = .ok (.return_, 1) := by decide +kernel
theorem dX10_grow_0 : decode cX10_grow 0 = .ok (.aload_n 0, 1) := by decide +kernel
theorem dX10_grow_1 : decode cX10_grow 1 = .ok (.aload_n 1, 1) := by decide +kernel
theorem dX10_grow_2 : decode cX10_grow 2 = .ok (.getfield 34, 3) := by decide +kernel
theorem dX10_grow_5 : decode cX10_grow 5 = .ok (.putfield 15, 3) := by decide +kernel
theorem dX10_grow_8 : decode cX10_grow 8 = .ok (.aload_n 1, 1) := by decide +kernel
theorem dX10_grow_9 : decode cX10_grow 9 = .ok (.getfield 37, 3) := by decide +kernel
theorem dX10_grow_12 : decode cX10_grow 12 = .ok (.iconst 0, 1) := by decide +kernel
theorem dX10_grow_13 : decode cX10_grow 13 = .ok (.aload_n 0, 1) := by decide +kernel
theorem dX10_grow_14 : decode cX10_grow 14 = .ok (.getfield 28, 3) := by decide +kernel
theorem dX10_grow_17 : decode cX10_grow 17 = .ok (.iconst 0, 1) := by decide +kernel
theorem dX10_grow_18 : decode cX10_grow 18 = .ok (.aload_n 0, 1) := by decide +kernel
theorem dX10_grow_19 : decode cX10_grow 19 = .ok (.getfield 28, 3) := by decide +kernel
theorem dX10_grow_22 : decode cX10_grow 22 = .ok (.arraylength, 1) := by decide +kernel
theorem dX10_grow_23 : decode cX10_grow 23 = .ok (.invokestatic 40, 3) := by decide +kernel
theorem dX10_grow_26 : decode cX10_grow 26 = .ok (.aload_n 0, 1) := by decide +kernel
theorem dX10_grow_27 : decode cX10_grow 27 = .ok (.iconst 1, 1) := by decide +kernel
theorem dX10_grow_28 : decode cX10_grow 28 = .ok (.aload_n 0, 1) := by decide +kernel
theorem dX10_grow_29 : decode cX10_grow 29 = .ok (.getfield 15, 3) := by decide +kernel
theorem dX10_grow_32 : decode cX10_grow 32 = .ok (.ishl, 1) := by decide +kernel
theorem dX10_grow_33 : decode cX10_grow 33 = .ok (.iconst 1, 1) := by decide +kernel
theorem dX10_grow_34 : decode cX10_grow 34 = .ok (.isub, 1) := by decide +kernel
theorem dX10_grow_35 : decode cX10_grow 35 = .ok (.putfield 31, 3) := by decide +kernel
theorem dX10_grow_38 : decode cX10_grow 38 = .ok (.aload_n 0, 1) := by decide +kernel
theorem dX10_grow_39 : decode cX10_grow 39 = .ok (.iconst 0, 1) := by decide +kernel
theorem dX10_grow_40 : decode cX10_grow 40 = .ok (.putfield 9, 3) := by decide +kernel
theorem dX10_grow_43 : decode cX10_grow 43 = .ok (.aload_n 0, 1) := by decide +kernel
theorem dX10_grow_44 : decode cX10_grow 44 = .ok (.getfield 9, 3) := by decide +kernel
theorem dX10_grow_47 : decode cX10_grow 47 = .ok (.aload_n 0, 1) := by decide +kernel
theorem dX10_grow_48 : decode cX10_grow 48 = .ok (.getfield 15, 3) := by decide +kernel
theorem dX10_grow_51 : decode cX10_grow 51 = .ok (.iconst 1, 1) := by decide +kernel
theorem dX10_grow_52 : decode cX10_grow 52 = .ok (.isub, 1) := by decide +kernel
theorem dX10_grow_53 : decode cX10_grow 53 = .ok (.if_icmp .ge 25, 3) := by decide +kernel
theorem dX10_grow_56 : decode cX10_grow 56 = .ok (.aload_n 0, 1) := by decide +kernel
theorem dX10_grow_57 : decode cX10_grow 57 = .ok (.invokevirtual 46, 3) := by decide +kernel
theorem dX10_grow_60 : decode cX10_grow 60 = .ok (.aload_n 0, 1) := by decide +kernel
theorem dX10_grow_61 : decode cX10_grow 61 = .ok (.iload_n 2, 1) := by decide +kernel
theorem dX10_grow_62 : decode cX10_grow 62 = .ok (.invokevirtual 49, 3) := by decide +kernel
theorem dX10_grow_65 : decode cX10_grow 65 = .ok (.aload_n 0, 1) := by decide +kernel
theorem dX10_grow_66 : decode cX10_grow 66 = .ok (.dup, 1) := by decide +kernel
theorem dX10_grow_67 : decode cX10_grow 67 = .ok (.getfield 9, 3) := by decide +kernel
theorem dX10_grow_70 : decode cX10_grow 70 = .ok (.iconst 1, 1) := by decide +kernel
theorem dX10_grow_71 : decode cX10_grow 71 = .ok (.iadd, 1) := by decide +kernel
theorem dX10_grow_72 : decode cX10_grow 72 = .ok (.putfield 9, 3) := by decide +kernel
theorem dX10_grow_75 : decode cX10_grow 75 = .ok (.goto (-32), 3) := by decide +kernel
theorem dX10_grow_78 : decode cX10_grow 78 = .ok (.return_, 1) := by decide +kernel
theorem dX10_findLowest_0 : decode cX10_findLowest 0 = .ok (.aload_n 0, 1) := by decide +kernel
theorem dX10_findLowest_1 : decode cX10_findLowest 1 = .ok (.getfield 25, 3) := by decide +kernel
theorem dX10_findLowest_4 : decode cX10_findLowest 4 = .ok (.aload_n 0, 1) := by decide +kernel
theorem dX10_findLowest_5 : decode cX10_findLowest 5 = .ok (.getfield 9, 3) := by decide +kernel
theorem dX10_findLowest_8 : decode cX10_findLowest 8 = .ok (.ldc 55, 2) := by decide +kernel
theorem dX10_findLowest_10 : decode cX10_findLowest 10 = .ok (.iastore, 1) := by decide +kernel
theorem dX10_findLowest_11 : decode cX10_findLowest 11 = .ok (.iconst 0, 1) := by decide +kernel
theorem dX10_findLowest_12 : decode cX10_findLowest 12 = .ok (.istore_n 1, 1) := by decide +kernel
theorem dX10_findLowest_13 : decode cX10_findLowest 13 = .ok (.iload_n 1, 1) := by decide +kernel
theorem dX10_findLowest_14 : decode cX10_findLowest 14 = .ok (.aload_n 0, 1) := by decide +kernel
theorem dX10_findLowest_15 : decode cX10_findLowest 15 = .ok (.getfield 15, 3) := by decide +kernel
theorem dX10_findLowest_18 : decode cX10_findLowest 18 = .ok (.if_icmp .ge 104, 3) := by decide +kernel
theorem dX10_findLowest_21 : decode cX10_findLowest 21 = .ok (.iload_n 1, 1) := by decide +kernel
theorem dX10_findLowest_22 : decode cX10_findLowest 22 = .ok (.iconst 1, 1) := by decide +kernel
theorem dX10_findLowest_23 : decode cX10_findLowest 23 = .ok (.iadd, 1) := by decide +kernel
theorem dX10_findLowest_24 : decode cX10_findLowest 24 = .ok (.istore_n 2, 1) := by decide +kernel
theorem dX10_findLowest_25 : decode cX10_findLowest 25 = .ok (.iload_n 2, 1) := by decide +kernel
theorem dX10_findLowest_26 : decode cX10_findLowest 26 = .ok (.aload_n 0, 1) := by decide +kernel
theorem dX10_findLowest_27 : decode cX10_findLowest 27 = .ok (.getfield 15, 3) := by decide +kernel
theorem dX10_findLowest_30 : decode cX10_findLowest 30 = .ok (.if_icmp .ge 86, 3) := by decide +kernel
theorem dX10_findLowest_33 : decode cX10_findLowest 33 = .ok (.aload_n 0, 1) := by decide +kernel
theorem dX10_findLowest_34 : decode cX10_findLowest 34 = .ok (.getfield 31, 3) := by decide +kernel
theorem dX10_findLowest_37 : decode cX10_findLowest 37 = .ok (.iload_n 1, 1) := by decide +kernel
theorem dX10_findLowest_38 : decode cX10_findLowest 38 = .ok (.invokestatic 56, 3) := by decide +kernel
theorem dX10_findLowest_41 : decode cX10_findLowest 41 = .ok (.ifCond .eq 75, 3) := by decide +kernel
theorem dX10_findLowest_44 : decode cX10_findLowest 44 = .ok (.aload_n 0, 1) := by decide +kernel
theorem dX10_findLowest_45 : decode cX10_findLowest 45 = .ok (.getfield 28, 3) := by decide +kernel
theorem dX10_findLowest_48 : decode cX10_findLowest 48 = .ok (.iload_n 1, 1) := by decide +kernel
theorem dX10_findLowest_49 : decode cX10_findLowest 49 = .ok (.bipush 12, 2) := by decide +kernel
theorem dX10_findLowest_51 : decode cX10_findLowest 51 = .ok (.imul, 1) := by decide +kernel
theorem dX10_findLowest_52 : decode cX10_findLowest 52 = .ok (.iload_n 2, 1) := by decide +kernel
theorem dX10_findLowest_53 : decode cX10_findLowest 53 = .ok (.iadd, 1) := by decide +kernel
theorem dX10_findLowest_54 : decode cX10_findLowest 54 = .ok (.iaload, 1) := by decide +kernel
theorem dX10_findLowest_55 : decode cX10_findLowest 55 = .ok (.istore_n 3, 1) := by decide +kernel
theorem dX10_findLowest_56 : decode cX10_findLowest 56 = .ok (.aload_n 0, 1) := by decide +kernel
theorem dX10_findLowest_57 : decode cX10_findLowest 57 = .ok (.getfield 31, 3) := by decide +kernel
theorem dX10_findLowest_60 : decode cX10_findLowest 60 = .ok (.iload_n 2, 1) := by decide +kernel
theorem dX10_findLowest_61 : decode cX10_findLowest 61 = .ok (.invokestatic 56, 3) := by decide +kernel
theorem dX10_findLowest_64 : decode cX10_findLowest 64 = .ok (.ifCond .eq 46, 3) := by decide +kernel
theorem dX10_findLowest_67 : decode cX10_findLowest 67 = .ok (.iload_n 3, 1) := by decide +kernel
theorem dX10_findLowest_68 : decode cX10_findLowest 68 = .ok (.aload_n 0, 1) := by decide +kernel
theorem dX10_findLowest_69 : decode cX10_findLowest 69 = .ok (.getfield 25, 3) := by decide +kernel
theorem dX10_findLowest_72 : decode cX10_findLowest 72 = .ok (.aload_n 0, 1) := by decide +kernel
theorem dX10_findLowest_73 : decode cX10_findLowest 73 = .ok (.getfield 9, 3) := by decide +kernel
theorem dX10_findLowest_76 : decode cX10_findLowest 76 = .ok (.iaload, 1) := by decide +kernel
theorem dX10_findLowest_77 : decode cX10_findLowest 77 = .ok (.if_icmp .ge 33, 3) := by decide +kernel
theorem dX10_findLowest_80 : decode cX10_findLowest 80 = .ok (.aload_n 0, 1) := by decide +kernel
theorem dX10_findLowest_81 : decode cX10_findLowest 81 = .ok (.getfield 18, 3) := by decide +kernel
theorem dX10_findLowest_84 : decode cX10_findLowest 84 = .ok (.aload_n 0, 1) := by decide +kernel
theorem dX10_findLowest_85 : decode cX10_findLowest 85 = .ok (.getfield 9, 3) := by decide +kernel
theorem dX10_findLowest_88 : decode cX10_findLowest 88 = .ok (.iload_n 1, 1) := by decide +kernel
theorem dX10_findLowest_89 : decode cX10_findLowest 89 = .ok (.iastore, 1) := by decide +kernel
theorem dX10_findLowest_90 : decode cX10_findLowest 90 = .ok (.aload_n 0, 1) := by decide +kernel
theorem dX10_findLowest_91 : decode cX10_findLowest 91 = .ok (.getfield 22, 3) := by decide +kernel
theorem dX10_findLowest_94 : decode cX10_findLowest 94 = .ok (.aload_n 0, 1) := by decide +kernel
theorem dX10_findLowest_95 : decode cX10_findLowest 95 = .ok (.getfield 9, 3) := by decide +kernel
theorem dX10_findLowest_98 : decode cX10_findLowest 98 = .ok (.iload_n 2, 1) := by decide +kernel
theorem dX10_findLowest_99 : decode cX10_findLowest 99 = .ok (.iastore, 1) := by decide +kernel
theorem dX10_findLowest_100 : decode cX10_findLowest 100 = .ok (.aload_n 0, 1) := by decide +kernel
theorem dX10_findLowest_101 : decode cX10_findLowest 101 = .ok (.getfield 25, 3) := by decide +kernel
theorem dX10_findLowest_104 : decode cX10_findLowest 104 = .ok (.aload_n 0, 1) := by decide +kernel
theorem dX10_findLowest_105 : decode cX10_findLowest 105 = .ok (.getfield 9, 3) := by decide +kernel
theorem dX10_findLowest_108 : decode cX10_findLowest 108 = .ok (.iload_n 3, 1) := by decide +kernel
theorem dX10_findLowest_109 : decode cX10_findLowest 109 = .ok (.iastore, 1) := by decide +kernel
theorem dX10_findLowest_110 : decode cX10_findLowest 110 = .ok (.iinc 2 1, 3) := by decide +kernel
theorem dX10_findLowest_113 : decode cX10_findLowest 113 = .ok (.goto (-88), 3) := by decide +kernel
theorem dX10_findLowest_116 : decode cX10_findLowest 116 = .ok (.iinc 1 1, 3) := by decide +kernel
theorem dX10_findLowest_119 : decode cX10_findLowest 119 = .ok (.goto (-106), 3) := by decide +kernel
theorem dX10_findLowest_122 : decode cX10_findLowest 122 = .ok (.return_, 1) := by decide +kernel
theorem dX10_joinLowest_0 : decode cX10_joinLowest 0 = .ok (.aload_n 0, 1) := by decide +kernel
theorem dX10_joinLowest_1 : decode cX10_joinLowest 1 = .ok (.getfield 18, 3) := by decide +kernel
theorem dX10_joinLowest_4 : decode cX10_joinLowest 4 = .ok (.aload_n 0, 1) := by decide +kernel
theorem dX10_joinLowest_5 : decode cX10_joinLowest 5 = .ok (.getfield 9, 3) := by decide +kernel
theorem dX10_joinLowest_8 : decode cX10_joinLowest 8 = .ok (.iaload, 1) := by decide +kernel
theorem dX10_joinLowest_9 : decode cX10_joinLowest 9 = .ok (.istore_n 2, 1) := by decide +kernel
theorem dX10_joinLowest_10 : decode cX10_joinLowest 10 = .ok (.aload_n 0, 1) := by decide +kernel
theorem dX10_joinLowest_11 : decode cX10_joinLowest 11 = .ok (.getfield 22, 3) := by decide +kernel
theorem dX10_joinLowest_14 : decode cX10_joinLowest 14 = .ok (.aload_n 0, 1) := by decide +kernel
theorem dX10_joinLowest_15 : decode cX10_joinLowest 15 = .ok (.getfield 9, 3) := by decide +kernel
theorem dX10_joinLowest_18 : decode cX10_joinLowest 18 = .ok (.iaload, 1) := by decide +kernel
theorem dX10_joinLowest_19 : decode cX10_joinLowest 19 = .ok (.istore_n 3, 1) := by decide +kernel
theorem dX10_joinLowest_20 : decode cX10_joinLowest 20 = .ok (.aload_n 0, 1) := by decide +kernel
theorem dX10_joinLowest_21 : decode cX10_joinLowest 21 = .ok (.dup, 1) := by decide +kernel
theorem dX10_joinLowest_22 : decode cX10_joinLowest 22 = .ok (.getfield 31, 3) := by decide +kernel
theorem dX10_joinLowest_25 : decode cX10_joinLowest 25 = .ok (.iconst 1, 1) := by decide +kernel
theorem dX10_joinLowest_26 : decode cX10_joinLowest 26 = .ok (.iload_n 3, 1) := by decide +kernel
theorem dX10_joinLowest_27 : decode cX10_joinLowest 27 = .ok (.ishl, 1) := by decide +kernel
theorem dX10_joinLowest_28 : decode cX10_joinLowest 28 = .ok (.iconst (-1), 1) := by decide +kernel
theorem dX10_joinLowest_29 : decode cX10_joinLowest 29 = .ok (.ixor, 1) := by decide +kernel
theorem dX10_joinLowest_30 : decode cX10_joinLowest 30 = .ok (.iand, 1) := by decide +kernel
theorem dX10_joinLowest_31 : decode cX10_joinLowest 31 = .ok (.putfield 31, 3) := by decide +kernel
theorem dX10_joinLowest_34 : decode cX10_joinLowest 34 = .ok (.iconst 0, 1) := by decide +kernel
theorem dX10_joinLowest_35 : decode cX10_joinLowest 35 = .ok (.istore 4, 2) := by decide +kernel
theorem dX10_joinLowest_37 : decode cX10_joinLowest 37 = .ok (.iload 4, 2) := by decide +kernel
theorem dX10_joinLowest_39 : decode cX10_joinLowest 39 = .ok (.aload_n 0, 1) := by decide +kernel
theorem dX10_joinLowest_40 : decode cX10_joinLowest 40 = .ok (.getfield 15, 3) := by decide +kernel
theorem dX10_joinLowest_43 : decode cX10_joinLowest 43 = .ok (.if_icmp .ge 88, 3) := by decide +kernel
theorem dX10_joinLowest_46 : decode cX10_joinLowest 46 = .ok (.aload_n 0, 1) := by decide +kernel
theorem dX10_joinLowest_47 : decode cX10_joinLowest 47 = .ok (.getfield 28, 3) := by decide +kernel
theorem dX10_joinLowest_50 : decode cX10_joinLowest 50 = .ok (.iload_n 2, 1) := by decide +kernel
theorem dX10_joinLowest_51 : decode cX10_joinLowest 51 = .ok (.bipush 12, 2) := by decide +kernel
theorem dX10_joinLowest_53 : decode cX10_joinLowest 53 = .ok (.imul, 1) := by decide +kernel
theorem dX10_joinLowest_54 : decode cX10_joinLowest 54 = .ok (.iload 4, 2) := by decide +kernel
theorem dX10_joinLowest_56 : decode cX10_joinLowest 56 = .ok (.iadd, 1) := by decide +kernel
theorem dX10_joinLowest_57 : decode cX10_joinLowest 57 = .ok (.iaload, 1) := by decide +kernel
theorem dX10_joinLowest_58 : decode cX10_joinLowest 58 = .ok (.istore 5, 2) := by decide +kernel
theorem dX10_joinLowest_60 : decode cX10_joinLowest 60 = .ok (.aload_n 0, 1) := by decide +kernel
theorem dX10_joinLowest_61 : decode cX10_joinLowest 61 = .ok (.getfield 28, 3) := by decide +kernel
theorem dX10_joinLowest_64 : decode cX10_joinLowest 64 = .ok (.iload_n 3, 1) := by decide +kernel
theorem dX10_joinLowest_65 : decode cX10_joinLowest 65 = .ok (.bipush 12, 2) := by decide +kernel
theorem dX10_joinLowest_67 : decode cX10_joinLowest 67 = .ok (.imul, 1) := by decide +kernel
theorem dX10_joinLowest_68 : decode cX10_joinLowest 68 = .ok (.iload 4, 2) := by decide +kernel
theorem dX10_joinLowest_70 : decode cX10_joinLowest 70 = .ok (.iadd, 1) := by decide +kernel
theorem dX10_joinLowest_71 : decode cX10_joinLowest 71 = .ok (.iaload, 1) := by decide +kernel
theorem dX10_joinLowest_72 : decode cX10_joinLowest 72 = .ok (.istore 6, 2) := by decide +kernel
theorem dX10_joinLowest_74 : decode cX10_joinLowest 74 = .ok (.iload_n 1, 1) := by decide +kernel
theorem dX10_joinLowest_75 : decode cX10_joinLowest 75 = .ok (.ifCond .ne 13, 3) := by decide +kernel
theorem dX10_joinLowest_78 : decode cX10_joinLowest 78 = .ok (.iload 5, 2) := by decide +kernel
theorem dX10_joinLowest_80 : decode cX10_joinLowest 80 = .ok (.iload 6, 2) := by decide +kernel
theorem dX10_joinLowest_82 : decode cX10_joinLowest 82 = .ok (.invokestatic 62, 3) := by decide +kernel
theorem dX10_joinLowest_85 : decode cX10_joinLowest 85 = .ok (.goto 10, 3) := by decide +kernel
theorem dX10_joinLowest_88 : decode cX10_joinLowest 88 = .ok (.iload 5, 2) := by decide +kernel
theorem dX10_joinLowest_90 : decode cX10_joinLowest 90 = .ok (.iload 6, 2) := by decide +kernel
theorem dX10_joinLowest_92 : decode cX10_joinLowest 92 = .ok (.invokestatic 68, 3) := by decide +kernel
theorem dX10_joinLowest_95 : decode cX10_joinLowest 95 = .ok (.istore 7, 2) := by decide +kernel
theorem dX10_joinLowest_97 : decode cX10_joinLowest 97 = .ok (.aload_n 0, 1) := by decide +kernel
theorem dX10_joinLowest_98 : decode cX10_joinLowest 98 = .ok (.getfield 28, 3) := by decide +kernel
theorem dX10_joinLowest_101 : decode cX10_joinLowest 101 = .ok (.iload_n 2, 1) := by decide +kernel
theorem dX10_joinLowest_102 : decode cX10_joinLowest 102 = .ok (.bipush 12, 2) := by decide +kernel
theorem dX10_joinLowest_104 : decode cX10_joinLowest 104 = .ok (.imul, 1) := by decide +kernel
theorem dX10_joinLowest_105 : decode cX10_joinLowest 105 = .ok (.iload 4, 2) := by decide +kernel
theorem dX10_joinLowest_107 : decode cX10_joinLowest 107 = .ok (.iadd, 1) := by decide +kernel
theorem dX10_joinLowest_108 : decode cX10_joinLowest 108 = .ok (.iload 7, 2) := by decide +kernel
theorem dX10_joinLowest_110 : decode cX10_joinLowest 110 = .ok (.iastore, 1) := by decide +kernel
theorem dX10_joinLowest_111 : decode cX10_joinLowest 111 = .ok (.aload_n 0, 1) := by decide +kernel
theorem dX10_joinLowest_112 : decode cX10_joinLowest 112 = .ok (.getfield 28, 3) := by decide +kernel
theorem dX10_joinLowest_115 : decode cX10_joinLowest 115 = .ok (.iload 4, 2) := by decide +kernel
theorem dX10_joinLowest_117 : decode cX10_joinLowest 117 = .ok (.bipush 12, 2) := by decide +kernel
theorem dX10_joinLowest_119 : decode cX10_joinLowest 119 = .ok (.imul, 1) := by decide +kernel
theorem dX10_joinLowest_120 : decode cX10_joinLowest 120 = .ok (.iload_n 2, 1) := by decide +kernel
theorem dX10_joinLowest_121 : decode cX10_joinLowest 121 = .ok (.iadd, 1) := by decide +kernel
theorem dX10_joinLowest_122 : decode cX10_joinLowest 122 = .ok (.iload 7, 2) := by decide +kernel
theorem dX10_joinLowest_124 : decode cX10_joinLowest 124 = .ok (.iastore, 1) := by decide +kernel
theorem dX10_joinLowest_125 : decode cX10_joinLowest 125 = .ok (.iinc 4 1, 3) := by decide +kernel
theorem dX10_joinLowest_128 : decode cX10_joinLowest 128 = .ok (.goto (-91), 3) := by decide +kernel
theorem dX10_joinLowest_131 : decode cX10_joinLowest 131 = .ok (.return_, 1) := by decide +kernel
theorem dX10_heightOf_0 : decode cX10_heightOf 0 = .ok (.iload_n 1, 1) := by decide +kernel
theorem dX10_heightOf_1 : decode cX10_heightOf 1 = .ok (.istore_n 3, 1) := by decide +kernel
theorem dX10_heightOf_2 : decode cX10_heightOf 2 = .ok (.iload_n 2, 1) := by decide +kernel
theorem dX10_heightOf_3 : decode cX10_heightOf 3 = .ok (.istore 4, 2) := by decide +kernel
theorem dX10_heightOf_5 : decode cX10_heightOf 5 = .ok (.iconst 0, 1) := by decide +kernel
theorem dX10_heightOf_6 : decode cX10_heightOf 6 = .ok (.istore 5, 2) := by decide +kernel
theorem dX10_heightOf_8 : decode cX10_heightOf 8 = .ok (.iload 5, 2) := by decide +kernel
theorem dX10_heightOf_10 : decode cX10_heightOf 10 = .ok (.aload_n 0, 1) := by decide +kernel
theorem dX10_heightOf_11 : decode cX10_heightOf 11 = .ok (.getfield 9, 3) := by decide +kernel
theorem dX10_heightOf_14 : decode cX10_heightOf 14 = .ok (.if_icmp .ge 77, 3) := by decide +kernel
theorem dX10_heightOf_17 : decode cX10_heightOf 17 = .ok (.iload_n 1, 1) := by decide +kernel
theorem dX10_heightOf_18 : decode cX10_heightOf 18 = .ok (.iload_n 2, 1) := by decide +kernel
theorem dX10_heightOf_19 : decode cX10_heightOf 19 = .ok (.if_icmp .eq 72, 3) := by decide +kernel
theorem dX10_heightOf_22 : decode cX10_heightOf 22 = .ok (.iload_n 3, 1) := by decide +kernel
theorem dX10_heightOf_23 : decode cX10_heightOf 23 = .ok (.aload_n 0, 1) := by decide +kernel
theorem dX10_heightOf_24 : decode cX10_heightOf 24 = .ok (.getfield 22, 3) := by decide +kernel
theorem dX10_heightOf_27 : decode cX10_heightOf 27 = .ok (.iload 5, 2) := by decide +kernel
theorem dX10_heightOf_29 : decode cX10_heightOf 29 = .ok (.iaload, 1) := by decide +kernel
theorem dX10_heightOf_30 : decode cX10_heightOf 30 = .ok (.if_icmp .ne 13, 3) := by decide +kernel
theorem dX10_heightOf_33 : decode cX10_heightOf 33 = .ok (.aload_n 0, 1) := by decide +kernel
theorem dX10_heightOf_34 : decode cX10_heightOf 34 = .ok (.getfield 18, 3) := by decide +kernel
theorem dX10_heightOf_37 : decode cX10_heightOf 37 = .ok (.iload 5, 2) := by decide +kernel
theorem dX10_heightOf_39 : decode cX10_heightOf 39 = .ok (.iaload, 1) := by decide +kernel
theorem dX10_heightOf_40 : decode cX10_heightOf 40 = .ok (.goto 4, 3) := by decide +kernel
theorem dX10_heightOf_43 : decode cX10_heightOf 43 = .ok (.iload_n 3, 1) := by decide +kernel
theorem dX10_heightOf_44 : decode cX10_heightOf 44 = .ok (.istore_n 3, 1) := by decide +kernel
theorem dX10_heightOf_45 : decode cX10_heightOf 45 = .ok (.iload 4, 2) := by decide +kernel
theorem dX10_heightOf_47 : decode cX10_heightOf 47 = .ok (.aload_n 0, 1) := by decide +kernel
theorem dX10_heightOf_48 : decode cX10_heightOf 48 = .ok (.getfield 22, 3) := by decide +kernel
theorem dX10_heightOf_51 : decode cX10_heightOf 51 = .ok (.iload 5, 2) := by decide +kernel
theorem dX10_heightOf_53 : decode cX10_heightOf 53 = .ok (.iaload, 1) := by decide +kernel
theorem dX10_heightOf_54 : decode cX10_heightOf 54 = .ok (.if_icmp .ne 13, 3) := by decide +kernel
theorem dX10_heightOf_57 : decode cX10_heightOf 57 = .ok (.aload_n 0, 1) := by decide +kernel
theorem dX10_heightOf_58 : decode cX10_heightOf 58 = .ok (.getfield 18, 3) := by decide +kernel
theorem dX10_heightOf_61 : decode cX10_heightOf 61 = .ok (.iload 5, 2) := by decide +kernel
theorem dX10_heightOf_63 : decode cX10_heightOf 63 = .ok (.iaload, 1) := by decide +kernel
theorem dX10_heightOf_64 : decode cX10_heightOf 64 = .ok (.goto 5, 3) := by decide +kernel
theorem dX10_heightOf_67 : decode cX10_heightOf 67 = .ok (.iload 4, 2) := by decide +kernel
theorem dX10_heightOf_69 : decode cX10_heightOf 69 = .ok (.istore 4, 2) := by decide +kernel
theorem dX10_heightOf_71 : decode cX10_heightOf 71 = .ok (.iload_n 3, 1) := by decide +kernel
theorem dX10_heightOf_72 : decode cX10_heightOf 72 = .ok (.iload 4, 2) := by decide +kernel
theorem dX10_heightOf_74 : decode cX10_heightOf 74 = .ok (.if_icmp .ne 11, 3) := by decide +kernel
theorem dX10_heightOf_77 : decode cX10_heightOf 77 = .ok (.aload_n 0, 1) := by decide +kernel
theorem dX10_heightOf_78 : decode cX10_heightOf 78 = .ok (.getfield 25, 3) := by decide +kernel
theorem dX10_heightOf_81 : decode cX10_heightOf 81 = .ok (.iload 5, 2) := by decide +kernel
theorem dX10_heightOf_83 : decode cX10_heightOf 83 = .ok (.iaload, 1) := by decide +kernel
theorem dX10_heightOf_84 : decode cX10_heightOf 84 = .ok (.ireturn, 1) := by decide +kernel
theorem dX10_heightOf_85 : decode cX10_heightOf 85 = .ok (.iinc 5 1, 3) := by decide +kernel
theorem dX10_heightOf_88 : decode cX10_heightOf 88 = .ok (.goto (-80), 3) := by decide +kernel
theorem dX10_heightOf_91 : decode cX10_heightOf 91 = .ok (.iconst 0, 1) := by decide +kernel
theorem dX10_heightOf_92 : decode cX10_heightOf 92 = .ok (.ireturn, 1) := by decide +kernel
theorem dX10_partBelow_0 : decode cX10_partBelow 0 = .ok (.iconst 0, 1) := by decide +kernel
theorem dX10_partBelow_1 : decode cX10_partBelow 1 = .ok (.istore_n 3, 1) := by decide +kernel
theorem dX10_partBelow_2 : decode cX10_partBelow 2 = .ok (.iload_n 3, 1) := by decide +kernel
theorem dX10_partBelow_3 : decode cX10_partBelow 3 = .ok (.aload_n 2, 1) := by decide +kernel
theorem dX10_partBelow_4 : decode cX10_partBelow 4 = .ok (.getfield 71, 3) := by decide +kernel
theorem dX10_partBelow_7 : decode cX10_partBelow 7 = .ok (.if_icmp .ge 16, 3) := by decide +kernel
theorem dX10_partBelow_10 : decode cX10_partBelow 10 = .ok (.aload_n 2, 1) := by decide +kernel
theorem dX10_partBelow_11 : decode cX10_partBelow 11 = .ok (.getfield 74, 3) := by decide +kernel
theorem dX10_partBelow_14 : decode cX10_partBelow 14 = .ok (.iload_n 3, 1) := by decide +kernel
theorem dX10_partBelow_15 : decode cX10_partBelow 15 = .ok (.iload_n 3, 1) := by decide +kernel
theorem dX10_partBelow_16 : decode cX10_partBelow 16 = .ok (.iastore, 1) := by decide +kernel
theorem dX10_partBelow_17 : decode cX10_partBelow 17 = .ok (.iinc 3 1, 3) := by decide +kernel
theorem dX10_partBelow_20 : decode cX10_partBelow 20 = .ok (.goto (-18), 3) := by decide +kernel
theorem dX10_partBelow_23 : decode cX10_partBelow 23 = .ok (.iconst 0, 1) := by decide +kernel
theorem dX10_partBelow_24 : decode cX10_partBelow 24 = .ok (.istore_n 3, 1) := by decide +kernel
theorem dX10_partBelow_25 : decode cX10_partBelow 25 = .ok (.iload_n 3, 1) := by decide +kernel
theorem dX10_partBelow_26 : decode cX10_partBelow 26 = .ok (.aload_n 0, 1) := by decide +kernel
theorem dX10_partBelow_27 : decode cX10_partBelow 27 = .ok (.getfield 9, 3) := by decide +kernel
theorem dX10_partBelow_30 : decode cX10_partBelow 30 = .ok (.if_icmp .ge 66, 3) := by decide +kernel
theorem dX10_partBelow_33 : decode cX10_partBelow 33 = .ok (.aload_n 0, 1) := by decide +kernel
theorem dX10_partBelow_34 : decode cX10_partBelow 34 = .ok (.getfield 25, 3) := by decide +kernel
theorem dX10_partBelow_37 : decode cX10_partBelow 37 = .ok (.iload_n 3, 1) := by decide +kernel
theorem dX10_partBelow_38 : decode cX10_partBelow 38 = .ok (.iaload, 1) := by decide +kernel
theorem dX10_partBelow_39 : decode cX10_partBelow 39 = .ok (.iload_n 1, 1) := by decide +kernel
theorem dX10_partBelow_40 : decode cX10_partBelow 40 = .ok (.if_icmp .gt 56, 3) := by decide +kernel
theorem dX10_partBelow_43 : decode cX10_partBelow 43 = .ok (.iconst 0, 1) := by decide +kernel
theorem dX10_partBelow_44 : decode cX10_partBelow 44 = .ok (.istore 4, 2) := by decide +kernel
theorem dX10_partBelow_46 : decode cX10_partBelow 46 = .ok (.iload 4, 2) := by decide +kernel
theorem dX10_partBelow_48 : decode cX10_partBelow 48 = .ok (.aload_n 2, 1) := by decide +kernel
theorem dX10_partBelow_49 : decode cX10_partBelow 49 = .ok (.getfield 71, 3) := by decide +kernel
theorem dX10_partBelow_52 : decode cX10_partBelow 52 = .ok (.if_icmp .ge 38, 3) := by decide +kernel
theorem dX10_partBelow_55 : decode cX10_partBelow 55 = .ok (.aload_n 2, 1) := by decide +kernel
theorem dX10_partBelow_56 : decode cX10_partBelow 56 = .ok (.getfield 74, 3) := by decide +kernel
theorem dX10_partBelow_59 : decode cX10_partBelow 59 = .ok (.iload 4, 2) := by decide +kernel
theorem dX10_partBelow_61 : decode cX10_partBelow 61 = .ok (.iaload, 1) := by decide +kernel
theorem dX10_partBelow_62 : decode cX10_partBelow 62 = .ok (.aload_n 0, 1) := by decide +kernel
theorem dX10_partBelow_63 : decode cX10_partBelow 63 = .ok (.getfield 22, 3) := by decide +kernel
theorem dX10_partBelow_66 : decode cX10_partBelow 66 = .ok (.iload_n 3, 1) := by decide +kernel
theorem dX10_partBelow_67 : decode cX10_partBelow 67 = .ok (.iaload, 1) := by decide +kernel
theorem dX10_partBelow_68 : decode cX10_partBelow 68 = .ok (.if_icmp .ne 16, 3) := by decide +kernel
theorem dX10_partBelow_71 : decode cX10_partBelow 71 = .ok (.aload_n 2, 1) := by decide +kernel
theorem dX10_partBelow_72 : decode cX10_partBelow 72 = .ok (.getfield 74, 3) := by decide +kernel
theorem dX10_partBelow_75 : decode cX10_partBelow 75 = .ok (.iload 4, 2) := by decide +kernel
theorem dX10_partBelow_77 : decode cX10_partBelow 77 = .ok (.aload_n 0, 1) := by decide +kernel
theorem dX10_partBelow_78 : decode cX10_partBelow 78 = .ok (.getfield 18, 3) := by decide +kernel
theorem dX10_partBelow_81 : decode cX10_partBelow 81 = .ok (.iload_n 3, 1) := by decide +kernel
theorem dX10_partBelow_82 : decode cX10_partBelow 82 = .ok (.iaload, 1) := by decide +kernel
theorem dX10_partBelow_83 : decode cX10_partBelow 83 = .ok (.iastore, 1) := by decide +kernel
theorem dX10_partBelow_84 : decode cX10_partBelow 84 = .ok (.iinc 4 1, 3) := by decide +kernel
theorem dX10_partBelow_87 : decode cX10_partBelow 87 = .ok (.goto (-41), 3) := by decide +kernel
theorem dX10_partBelow_90 : decode cX10_partBelow 90 = .ok (.iinc 3 1, 3) := by decide +kernel
theorem dX10_partBelow_93 : decode cX10_partBelow 93 = .ok (.goto (-68), 3) := by decide +kernel
theorem dX10_partBelow_96 : decode cX10_partBelow 96 = .ok (.aload_n 2, 1) := by decide +kernel
theorem dX10_partBelow_97 : decode cX10_partBelow 97 = .ok (.invokevirtual 77, 3) := by decide +kernel
theorem dX10_partBelow_100 : decode cX10_partBelow 100 = .ok (.return_, 1) := by decide +kernel
theorem dX11_init_0 : decode cX11_init 0 = .ok (.aload_n 0, 1) := by decide +kernel
theorem dX11_init_1 : decode cX11_init 1 = .ok (.invokespecial 1, 3) := by decide +kernel
theorem dX11_init_4 : decode cX11_init 4 = .ok (.aload_n 0, 1) := by decide +kernel
theorem dX11_init_5 : decode cX11_init 5 = .ok (.new 7, 3) := by decide +kernel
theorem dX11_init_8 : decode cX11_init 8 = .ok (.dup, 1) := by decide +kernel
theorem dX11_init_9 : decode cX11_init 9 = .ok (.invokespecial 9, 3) := by decide +kernel
theorem dX11_init_12 : decode cX11_init 12 = .ok (.putfield 10, 3) := by decide +kernel
theorem dX11_init_15 : decode cX11_init 15 = .ok (.aload_n 0, 1) := by decide +kernel
theorem dX11_init_16 : decode cX11_init 16 = .ok (.new 16, 3) := by decide +kernel
theorem dX11_init_19 : decode cX11_init 19 = .ok (.dup, 1) := by decide +kernel
theorem dX11_init_20 : decode cX11_init 20 = .ok (.invokespecial 18, 3) := by decide +kernel
theorem dX11_init_23 : decode cX11_init 23 = .ok (.putfield 19, 3) := by decide +kernel
theorem dX11_init_26 : decode cX11_init 26 = .ok (.aload_n 0, 1) := by decide +kernel
theorem dX11_init_27 : decode cX11_init 27 = .ok (.new 23, 3) := by decide +kernel
theorem dX11_init_30 : decode cX11_init 30 = .ok (.dup, 1) := by decide +kernel
theorem dX11_init_31 : decode cX11_init 31 = .ok (.invokespecial 25, 3) := by decide +kernel
theorem dX11_init_34 : decode cX11_init 34 = .ok (.putfield 26, 3) := by decide +kernel
theorem dX11_init_37 : decode cX11_init 37 = .ok (.aload_n 0, 1) := by decide +kernel
theorem dX11_init_38 : decode cX11_init 38 = .ok (.new 30, 3) := by decide +kernel
theorem dX11_init_41 : decode cX11_init 41 = .ok (.dup, 1) := by decide +kernel
theorem dX11_init_42 : decode cX11_init 42 = .ok (.invokespecial 32, 3) := by decide +kernel
theorem dX11_init_45 : decode cX11_init 45 = .ok (.putfield 33, 3) := by decide +kernel
theorem dX11_init_48 : decode cX11_init 48 = .ok (.aload_n 0, 1) := by decide +kernel
theorem dX11_init_49 : decode cX11_init 49 = .ok (.iconst 4, 1) := by decide +kernel
theorem dX11_init_50 : decode cX11_init 50 = .ok (.anewarray 37, 3) := by decide +kernel
theorem dX11_init_53 : decode cX11_init 53 = .ok (.putfield 39, 3) := by decide +kernel
theorem dX11_init_56 : decode cX11_init 56 = .ok (.aload_n 0, 1) := by decide +kernel
theorem dX11_init_57 : decode cX11_init 57 = .ok (.new 37, 3) := by decide +kernel
theorem dX11_init_60 : decode cX11_init 60 = .ok (.dup, 1) := by decide +kernel
theorem dX11_init_61 : decode cX11_init 61 = .ok (.invokespecial 43, 3) := by decide +kernel
theorem dX11_init_64 : decode cX11_init 64 = .ok (.putfield 44, 3) := by decide +kernel
theorem dX11_init_67 : decode cX11_init 67 = .ok (.aload_n 0, 1) := by decide +kernel
theorem dX11_init_68 : decode cX11_init 68 = .ok (.new 48, 3) := by decide +kernel
theorem dX11_init_71 : decode cX11_init 71 = .ok (.dup, 1) := by decide +kernel
theorem dX11_init_72 : decode cX11_init 72 = .ok (.aload_n 0, 1) := by decide +kernel
theorem dX11_init_73 : decode cX11_init 73 = .ok (.getfield 10, 3) := by decide +kernel
theorem dX11_init_76 : decode cX11_init 76 = .ok (.invokespecial 50, 3) := by decide +kernel
theorem dX11_init_79 : decode cX11_init 79 = .ok (.putfield 53, 3) := by decide +kernel
theorem dX11_init_82 : decode cX11_init 82 = .ok (.aload_n 0, 1) := by decide +kernel
theorem dX11_init_83 : decode cX11_init 83 = .ok (.new 57, 3) := by decide +kernel
theorem dX11_init_86 : decode cX11_init 86 = .ok (.dup, 1) := by decide +kernel
theorem dX11_init_87 : decode cX11_init 87 = .ok (.invokespecial 59, 3) := by decide +kernel
theorem dX11_init_90 : decode cX11_init 90 = .ok (.putfield 60, 3) := by decide +kernel
theorem dX11_init_93 : decode cX11_init 93 = .ok (.aload_n 0, 1) := by decide +kernel
theorem dX11_init_94 : decode cX11_init 94 = .ok (.new 64, 3) := by decide +kernel
theorem dX11_init_97 : decode cX11_init 97 = .ok (.dup, 1) := by decide +kernel
theorem dX11_init_98 : decode cX11_init 98 = .ok (.invokespecial 66, 3) := by decide +kernel
theorem dX11_init_101 : decode cX11_init 101 = .ok (.putfield 67, 3) := by decide +kernel
theorem dX11_init_104 : decode cX11_init 104 = .ok (.aload_n 0, 1) := by decide +kernel
theorem dX11_init_105 : decode cX11_init 105 = .ok (.new 71, 3) := by decide +kernel
theorem dX11_init_108 : decode cX11_init 108 = .ok (.dup, 1) := by decide +kernel
theorem dX11_init_109 : decode cX11_init 109 = .ok (.invokespecial 73, 3) := by decide +kernel
theorem dX11_init_112 : decode cX11_init 112 = .ok (.putfield 74, 3) := by decide +kernel
theorem dX11_init_115 : decode cX11_init 115 = .ok (.aload_n 0, 1) := by decide +kernel
theorem dX11_init_116 : decode cX11_init 116 = .ok (.new 78, 3) := by decide +kernel
theorem dX11_init_119 : decode cX11_init 119 = .ok (.dup, 1) := by decide +kernel
theorem dX11_init_120 : decode cX11_init 120 = .ok (.invokespecial 80, 3) := by decide +kernel
theorem dX11_init_123 : decode cX11_init 123 = .ok (.putfield 81, 3) := by decide +kernel
theorem dX11_init_126 : decode cX11_init 126 = .ok (.aload_n 0, 1) := by decide +kernel
theorem dX11_init_127 : decode cX11_init 127 = .ok (.iconst 0, 1) := by decide +kernel
theorem dX11_init_128 : decode cX11_init 128 = .ok (.putfield 85, 3) := by decide +kernel
theorem dX11_init_131 : decode cX11_init 131 = .ok (.aload_n 0, 1) := by decide +kernel
theorem dX11_init_132 : decode cX11_init 132 = .ok (.getfield 10, 3) := by decide +kernel
theorem dX11_init_135 : decode cX11_init 135 = .ok (.iconst 1, 1) := by decide +kernel
theorem dX11_init_136 : decode cX11_init 136 = .ok (.invokevirtual 89, 3) := by decide +kernel
theorem dX11_init_139 : decode cX11_init 139 = .ok (.iconst 0, 1) := by decide +kernel
theorem dX11_init_140 : decode cX11_init 140 = .ok (.istore_n 1, 1) := by decide +kernel
theorem dX11_init_141 : decode cX11_init 141 = .ok (.iload_n 1, 1) := by decide +kernel
theorem dX11_init_142 : decode cX11_init 142 = .ok (.iconst 4, 1) := by decide +kernel
theorem dX11_init_143 : decode cX11_init 143 = .ok (.if_icmp .ge 22, 3) := by decide +kernel
theorem dX11_init_146 : decode cX11_init 146 = .ok (.aload_n 0, 1) := by decide +kernel
theorem dX11_init_147 : decode cX11_init 147 = .ok (.getfield 39, 3) := by decide +kernel
theorem dX11_init_150 : decode cX11_init 150 = .ok (.iload_n 1, 1) := by decide +kernel
theorem dX11_init_151 : decode cX11_init 151 = .ok (.new 37, 3) := by decide +kernel
theorem dX11_init_154 : decode cX11_init 154 = .ok (.dup, 1) := by decide +kernel
theorem dX11_init_155 : decode cX11_init 155 = .ok (.invokespecial 43, 3) := by decide +kernel
theorem dX11_init_158 : decode cX11_init 158 = .ok (.aastore, 1) := by decide +kernel
theorem dX11_init_159 : decode cX11_init 159 = .ok (.iinc 1 1, 3) := by decide +kernel
theorem dX11_init_162 : decode cX11_init 162 = .ok (.goto (-21), 3) := by decide +kernel
theorem dX11_init_165 : decode cX11_init 165 = .ok (.return_, 1) := by decide +kernel
theorem dX11_things_0 : decode cX11_things 0 = .ok (.iload_n 1, 1) := by decide +kernel
theorem dX11_things_1 : decode cX11_things 1 = .ok (.iconst 1, 1) := by decide +kernel
theorem dX11_things_2 : decode cX11_things 2 = .ok (.if_icmp .lt 9, 3) := by decide +kernel
theorem dX11_things_5 : decode cX11_things 5 = .ok (.iload_n 1, 1) := by decide +kernel
theorem dX11_things_6 : decode cX11_things 6 = .ok (.bipush 12, 2) := by decide +kernel
theorem dX11_things_8 : decode cX11_things 8 = .ok (.if_icmp .le 9, 3) := by decide +kernel
theorem dX11_things_11 : decode cX11_things 11 = .ok (.aload_n 0, 1) := by decide +kernel
theorem dX11_things_12 : decode cX11_things 12 = .ok (.iconst 1, 1) := by decide +kernel
theorem dX11_things_13 : decode cX11_things 13 = .ok (.invokevirtual 93, 3) := by decide +kernel
theorem dX11_things_16 : decode cX11_things 16 = .ok (.ireturn, 1) := by decide +kernel
theorem dX11_things_17 : decode cX11_things 17 = .ok (.aload_n 0, 1) := by decide +kernel
theorem dX11_things_18 : decode cX11_things 18 = .ok (.invokevirtual 97, 3) := by decide +kernel
theorem dX11_things_21 : decode cX11_things 21 = .ok (.aload_n 0, 1) := by decide +kernel
theorem dX11_things_22 : decode cX11_things 22 = .ok (.getfield 10, 3) := by decide +kernel
theorem dX11_things_25 : decode cX11_things 25 = .ok (.iload_n 1, 1) := by decide +kernel
theorem dX11_things_26 : decode cX11_things 26 = .ok (.invokevirtual 89, 3) := by decide +kernel
theorem dX11_things_29 : decode cX11_things 29 = .ok (.aload_n 0, 1) := by decide +kernel
theorem dX11_things_30 : decode cX11_things 30 = .ok (.getfield 33, 3) := by decide +kernel
theorem dX11_things_33 : decode cX11_things 33 = .ok (.invokevirtual 100, 3) := by decide +kernel
theorem dX11_things_36 : decode cX11_things 36 = .ok (.iconst 1, 1) := by decide +kernel
theorem dX11_things_37 : decode cX11_things 37 = .ok (.ireturn, 1) := by decide +kernel
theorem dX11_way_0 : decode cX11_way 0 = .ok (.aload_n 0, 1) := by decide +kernel
theorem dX11_way_1 : decode cX11_way 1 = .ok (.iload_n 1, 1) := by decide +kernel
theorem dX11_way_2 : decode cX11_way 2 = .ok (.iload_n 2, 1) := by decide +kernel
theorem dX11_way_3 : decode cX11_way 3 = .ok (.invokevirtual 103, 3) := by decide +kernel
theorem dX11_way_6 : decode cX11_way 6 = .ok (.ifCond .eq 14, 3) := by decide +kernel
theorem dX11_way_9 : decode cX11_way 9 = .ok (.iload_n 3, 1) := by decide +kernel
theorem dX11_way_10 : decode cX11_way 10 = .ok (.ifCond .lt 10, 3) := by decide +kernel
theorem dX11_way_13 : decode cX11_way 13 = .ok (.iload_n 3, 1) := by decide +kernel
theorem dX11_way_14 : decode cX11_way 14 = .ok (.sipush 10000, 3) := by decide +kernel
theorem dX11_way_17 : decode cX11_way 17 = .ok (.if_icmp .le 9, 3) := by decide +kernel
theorem dX11_way_20 : decode cX11_way 20 = .ok (.aload_n 0, 1) := by decide +kernel
theorem dX11_way_21 : decode cX11_way 21 = .ok (.iconst 1, 1) := by decide +kernel
theorem dX11_way_22 : decode cX11_way 22 = .ok (.invokevirtual 107, 3) := by decide +kernel
theorem dX11_way_25 : decode cX11_way 25 = .ok (.ireturn, 1) := by decide +kernel
theorem dX11_way_26 : decode cX11_way 26 = .ok (.aload_n 0, 1) := by decide +kernel
theorem dX11_way_27 : decode cX11_way 27 = .ok (.invokevirtual 97, 3) := by decide +kernel
theorem dX11_way_30 : decode cX11_way 30 = .ok (.aload_n 0, 1) := by decide +kernel
theorem dX11_way_31 : decode cX11_way 31 = .ok (.getfield 10, 3) := by decide +kernel
theorem dX11_way_34 : decode cX11_way 34 = .ok (.iload_n 1, 1) := by decide +kernel
theorem dX11_way_35 : decode cX11_way 35 = .ok (.iload_n 2, 1) := by decide +kernel
theorem dX11_way_36 : decode cX11_way 36 = .ok (.invokevirtual 111, 3) := by decide +kernel
theorem dX11_way_39 : decode cX11_way 39 = .ok (.istore 4, 2) := by decide +kernel
theorem dX11_way_41 : decode cX11_way 41 = .ok (.aload_n 0, 1) := by decide +kernel
theorem dX11_way_42 : decode cX11_way 42 = .ok (.getfield 10, 3) := by decide +kernel
theorem dX11_way_45 : decode cX11_way 45 = .ok (.iload_n 1, 1) := by decide +kernel
theorem dX11_way_46 : decode cX11_way 46 = .ok (.iload_n 2, 1) := by decide +kernel
theorem dX11_way_47 : decode cX11_way 47 = .ok (.iload_n 3, 1) := by decide +kernel
theorem dX11_way_48 : decode cX11_way 48 = .ok (.invokevirtual 115, 3) := by decide +kernel
theorem dX11_way_51 : decode cX11_way 51 = .ok (.iload 4, 2) := by decide +kernel
theorem dX11_way_53 : decode cX11_way 53 = .ok (.ireturn, 1) := by decide +kernel
theorem dX11_sheet_0 : decode cX11_sheet 0 = .ok (.iload_n 1, 1) := by decide +kernel
theorem dX11_sheet_1 : decode cX11_sheet 1 = .ok (.ifCond .lt 8, 3) := by decide +kernel
theorem dX11_sheet_4 : decode cX11_sheet 4 = .ok (.iload_n 1, 1) := by decide +kernel
theorem dX11_sheet_5 : decode cX11_sheet 5 = .ok (.iconst 4, 1) := by decide +kernel
theorem dX11_sheet_6 : decode cX11_sheet 6 = .ok (.if_icmp .le 9, 3) := by decide +kernel
theorem dX11_sheet_9 : decode cX11_sheet 9 = .ok (.aload_n 0, 1) := by decide +kernel
theorem dX11_sheet_10 : decode cX11_sheet 10 = .ok (.iconst 1, 1) := by decide +kernel
theorem dX11_sheet_11 : decode cX11_sheet 11 = .ok (.invokevirtual 107, 3) := by decide +kernel
theorem dX11_sheet_14 : decode cX11_sheet 14 = .ok (.ireturn, 1) := by decide +kernel
theorem dX11_sheet_15 : decode cX11_sheet 15 = .ok (.iload_n 1, 1) := by decide +kernel
theorem dX11_sheet_16 : decode cX11_sheet 16 = .ok (.iconst 4, 1) := by decide +kernel
theorem dX11_sheet_17 : decode cX11_sheet 17 = .ok (.if_icmp .eq 15, 3) := by decide +kernel
theorem dX11_sheet_20 : decode cX11_sheet 20 = .ok (.iload_n 2, 1) := by decide +kernel
theorem dX11_sheet_21 : decode cX11_sheet 21 = .ok (.bipush 8, 2) := by decide +kernel
theorem dX11_sheet_23 : decode cX11_sheet 23 = .ok (.if_icmp .le 9, 3) := by decide +kernel
theorem dX11_sheet_26 : decode cX11_sheet 26 = .ok (.aload_n 0, 1) := by decide +kernel
theorem dX11_sheet_27 : decode cX11_sheet 27 = .ok (.iconst 1, 1) := by decide +kernel
theorem dX11_sheet_28 : decode cX11_sheet 28 = .ok (.invokevirtual 107, 3) := by decide +kernel
theorem dX11_sheet_31 : decode cX11_sheet 31 = .ok (.ireturn, 1) := by decide +kernel
theorem dX11_sheet_32 : decode cX11_sheet 32 = .ok (.iload_n 1, 1) := by decide +kernel
theorem dX11_sheet_33 : decode cX11_sheet 33 = .ok (.iconst 4, 1) := by decide +kernel
theorem dX11_sheet_34 : decode cX11_sheet 34 = .ok (.if_icmp .eq 13, 3) := by decide +kernel
theorem dX11_sheet_37 : decode cX11_sheet 37 = .ok (.iload_n 2, 1) := by decide +kernel
theorem dX11_sheet_38 : decode cX11_sheet 38 = .ok (.ifCond .ge 9, 3) := by decide +kernel
theorem dX11_sheet_41 : decode cX11_sheet 41 = .ok (.aload_n 0, 1) := by decide +kernel
theorem dX11_sheet_42 : decode cX11_sheet 42 = .ok (.iconst 4, 1) := by decide +kernel
theorem dX11_sheet_43 : decode cX11_sheet 43 = .ok (.invokevirtual 107, 3) := by decide +kernel
theorem dX11_sheet_46 : decode cX11_sheet 46 = .ok (.ireturn, 1) := by decide +kernel
theorem dX11_sheet_47 : decode cX11_sheet 47 = .ok (.aload_n 0, 1) := by decide +kernel
theorem dX11_sheet_48 : decode cX11_sheet 48 = .ok (.iconst 0, 1) := by decide +kernel
theorem dX11_sheet_49 : decode cX11_sheet 49 = .ok (.putfield 85, 3) := by decide +kernel
theorem dX11_sheet_52 : decode cX11_sheet 52 = .ok (.aload_n 0, 1) := by decide +kernel
theorem dX11_sheet_53 : decode cX11_sheet 53 = .ok (.getfield 26, 3) := by decide +kernel
theorem dX11_sheet_56 : decode cX11_sheet 56 = .ok (.iload_n 1, 1) := by decide +kernel
theorem dX11_sheet_57 : decode cX11_sheet 57 = .ok (.iload_n 1, 1) := by decide +kernel
theorem dX11_sheet_58 : decode cX11_sheet 58 = .ok (.iconst 4, 1) := by decide +kernel
theorem dX11_sheet_59 : decode cX11_sheet 59 = .ok (.if_icmp .ne 7, 3) := by decide +kernel
theorem dX11_sheet_62 : decode cX11_sheet 62 = .ok (.iconst 0, 1) := by decide +kernel
theorem dX11_sheet_63 : decode cX11_sheet 63 = .ok (.goto 4, 3) := by decide +kernel
theorem dX11_sheet_66 : decode cX11_sheet 66 = .ok (.iload_n 2, 1) := by decide +kernel
theorem dX11_sheet_67 : decode cX11_sheet 67 = .ok (.invokevirtual 119, 3) := by decide +kernel
theorem dX11_sheet_70 : decode cX11_sheet 70 = .ok (.aload_n 0, 1) := by decide +kernel
theorem dX11_sheet_71 : decode cX11_sheet 71 = .ok (.getfield 26, 3) := by decide +kernel
theorem dX11_sheet_74 : decode cX11_sheet 74 = .ok (.getfield 123, 3) := by decide +kernel
theorem dX11_sheet_77 : decode cX11_sheet 77 = .ok (.ireturn, 1) := by decide +kernel
theorem dX11_entry_0 : decode cX11_entry 0 = .ok (.aload_n 0, 1) := by decide +kernel
theorem dX11_entry_1 : decode cX11_entry 1 = .ok (.getfield 26, 3) := by decide +kernel
theorem dX11_entry_4 : decode cX11_entry 4 = .ok (.getfield 126, 3) := by decide +kernel
theorem dX11_entry_7 : decode cX11_entry 7 = .ok (.iconst (-1), 1) := by decide +kernel
theorem dX11_entry_8 : decode cX11_entry 8 = .ok (.if_icmp .eq 14, 3) := by decide +kernel
theorem dX11_entry_11 : decode cX11_entry 11 = .ok (.aload_n 0, 1) := by decide +kernel
theorem dX11_entry_12 : decode cX11_entry 12 = .ok (.getfield 26, 3) := by decide +kernel
theorem dX11_entry_15 : decode cX11_entry 15 = .ok (.getfield 126, 3) := by decide +kernel
theorem dX11_entry_18 : decode cX11_entry 18 = .ok (.iconst 4, 1) := by decide +kernel
theorem dX11_entry_19 : decode cX11_entry 19 = .ok (.if_icmp .ne 9, 3) := by decide +kernel
theorem dX11_entry_22 : decode cX11_entry 22 = .ok (.aload_n 0, 1) := by decide +kernel
theorem dX11_entry_23 : decode cX11_entry 23 = .ok (.iconst 2, 1) := by decide +kernel
theorem dX11_entry_24 : decode cX11_entry 24 = .ok (.invokevirtual 93, 3) := by decide +kernel
theorem dX11_entry_27 : decode cX11_entry 27 = .ok (.ireturn, 1) := by decide +kernel
theorem dX11_entry_28 : decode cX11_entry 28 = .ok (.iload_n 1, 1) := by decide +kernel
theorem dX11_entry_29 : decode cX11_entry 29 = .ok (.ifCond .lt 14, 3) := by decide +kernel
theorem dX11_entry_32 : decode cX11_entry 32 = .ok (.iload_n 1, 1) := by decide +kernel
theorem dX11_entry_33 : decode cX11_entry 33 = .ok (.aload_n 0, 1) := by decide +kernel
theorem dX11_entry_34 : decode cX11_entry 34 = .ok (.getfield 26, 3) := by decide +kernel
theorem dX11_entry_37 : decode cX11_entry 37 = .ok (.getfield 123, 3) := by decide +kernel
theorem dX11_entry_40 : decode cX11_entry 40 = .ok (.if_icmp .lt 9, 3) := by decide +kernel
theorem dX11_entry_43 : decode cX11_entry 43 = .ok (.aload_n 0, 1) := by decide +kernel
theorem dX11_entry_44 : decode cX11_entry 44 = .ok (.iconst 1, 1) := by decide +kernel
theorem dX11_entry_45 : decode cX11_entry 45 = .ok (.invokevirtual 93, 3) := by decide +kernel
theorem dX11_entry_48 : decode cX11_entry 48 = .ok (.ireturn, 1) := by decide +kernel
theorem dX11_entry_49 : decode cX11_entry 49 = .ok (.aload_n 0, 1) := by decide +kernel
theorem dX11_entry_50 : decode cX11_entry 50 = .ok (.iconst 0, 1) := by decide +kernel
theorem dX11_entry_51 : decode cX11_entry 51 = .ok (.putfield 85, 3) := by decide +kernel
theorem dX11_entry_54 : decode cX11_entry 54 = .ok (.aload_n 0, 1) := by decide +kernel
theorem dX11_entry_55 : decode cX11_entry 55 = .ok (.getfield 26, 3) := by decide +kernel
theorem dX11_entry_58 : decode cX11_entry 58 = .ok (.iload_n 1, 1) := by decide +kernel
theorem dX11_entry_59 : decode cX11_entry 59 = .ok (.lload_n 2, 1) := by decide +kernel
theorem dX11_entry_60 : decode cX11_entry 60 = .ok (.invokevirtual 129, 3) := by decide +kernel
theorem dX11_entry_63 : decode cX11_entry 63 = .ok (.iconst 1, 1) := by decide +kernel
theorem dX11_entry_64 : decode cX11_entry 64 = .ok (.ireturn, 1) := by decide +kernel
theorem dX11_lay_0 : decode cX11_lay 0 = .ok (.aload_n 0, 1) := by decide +kernel
theorem dX11_lay_1 : decode cX11_lay 1 = .ok (.iload_n 1, 1) := by decide +kernel
theorem dX11_lay_2 : decode cX11_lay 2 = .ok (.invokevirtual 133, 3) := by decide +kernel
theorem dX11_lay_5 : decode cX11_lay 5 = .ok (.ifCond .eq 13, 3) := by decide +kernel
theorem dX11_lay_8 : decode cX11_lay 8 = .ok (.aload_n 0, 1) := by decide +kernel
theorem dX11_lay_9 : decode cX11_lay 9 = .ok (.getfield 26, 3) := by decide +kernel
theorem dX11_lay_12 : decode cX11_lay 12 = .ok (.invokevirtual 136, 3) := by decide +kernel
theorem dX11_lay_15 : decode cX11_lay 15 = .ok (.ifCond .ne 9, 3) := by decide +kernel
theorem dX11_lay_18 : decode cX11_lay 18 = .ok (.aload_n 0, 1) := by decide +kernel
theorem dX11_lay_19 : decode cX11_lay 19 = .ok (.iconst 1, 1) := by decide +kernel
theorem dX11_lay_20 : decode cX11_lay 20 = .ok (.invokevirtual 93, 3) := by decide +kernel
theorem dX11_lay_23 : decode cX11_lay 23 = .ok (.ireturn, 1) := by decide +kernel
theorem dX11_lay_24 : decode cX11_lay 24 = .ok (.aload_n 0, 1) := by decide +kernel
theorem dX11_lay_25 : decode cX11_lay 25 = .ok (.getfield 26, 3) := by decide +kernel
theorem dX11_lay_28 : decode cX11_lay 28 = .ok (.getfield 126, 3) := by decide +kernel
theorem dX11_lay_31 : decode cX11_lay 31 = .ok (.iconst (-1), 1) := by decide +kernel
theorem dX11_lay_32 : decode cX11_lay 32 = .ok (.if_icmp .ne 9, 3) := by decide +kernel
theorem dX11_lay_35 : decode cX11_lay 35 = .ok (.aload_n 0, 1) := by decide +kernel
theorem dX11_lay_36 : decode cX11_lay 36 = .ok (.iconst 2, 1) := by decide +kernel
theorem dX11_lay_37 : decode cX11_lay 37 = .ok (.invokevirtual 93, 3) := by decide +kernel
theorem dX11_lay_40 : decode cX11_lay 40 = .ok (.ireturn, 1) := by decide +kernel
theorem dX11_lay_41 : decode cX11_lay 41 = .ok (.aload_n 0, 1) := by decide +kernel
theorem dX11_lay_42 : decode cX11_lay 42 = .ok (.invokevirtual 97, 3) := by decide +kernel
theorem dX11_lay_45 : decode cX11_lay 45 = .ok (.iconst 0, 1) := by decide +kernel
theorem dX11_lay_46 : decode cX11_lay 46 = .ok (.istore_n 2, 1) := by decide +kernel
theorem dX11_lay_47 : decode cX11_lay 47 = .ok (.iload_n 2, 1) := by decide +kernel
theorem dX11_lay_48 : decode cX11_lay 48 = .ok (.iconst 4, 1) := by decide +kernel
theorem dX11_lay_49 : decode cX11_lay 49 = .ok (.if_icmp .ge 32, 3) := by decide +kernel
theorem dX11_lay_52 : decode cX11_lay 52 = .ok (.aload_n 0, 1) := by decide +kernel
theorem dX11_lay_53 : decode cX11_lay 53 = .ok (.getfield 10, 3) := by decide +kernel
theorem dX11_lay_56 : decode cX11_lay 56 = .ok (.getfield 140, 3) := by decide +kernel
theorem dX11_lay_59 : decode cX11_lay 59 = .ok (.iload_n 1, 1) := by decide +kernel
theorem dX11_lay_60 : decode cX11_lay 60 = .ok (.iconst 4, 1) := by decide +kernel
theorem dX11_lay_61 : decode cX11_lay 61 = .ok (.imul, 1) := by decide +kernel
theorem dX11_lay_62 : decode cX11_lay 62 = .ok (.iload_n 2, 1) := by decide +kernel
theorem dX11_lay_63 : decode cX11_lay 63 = .ok (.iadd, 1) := by decide +kernel
theorem dX11_lay_64 : decode cX11_lay 64 = .ok (.aload_n 0, 1) := by decide +kernel
theorem dX11_lay_65 : decode cX11_lay 65 = .ok (.getfield 26, 3) := by decide +kernel
theorem dX11_lay_68 : decode cX11_lay 68 = .ok (.getfield 144, 3) := by decide +kernel
theorem dX11_lay_71 : decode cX11_lay 71 = .ok (.iload_n 2, 1) := by decide +kernel
theorem dX11_lay_72 : decode cX11_lay 72 = .ok (.laload, 1) := by decide +kernel
theorem dX11_lay_73 : decode cX11_lay 73 = .ok (.l2i, 1) := by decide +kernel
theorem dX11_lay_74 : decode cX11_lay 74 = .ok (.iastore, 1) := by decide +kernel
theorem dX11_lay_75 : decode cX11_lay 75 = .ok (.iinc 2 1, 3) := by decide +kernel
theorem dX11_lay_78 : decode cX11_lay 78 = .ok (.goto (-31), 3) := by decide +kernel
theorem dX11_lay_81 : decode cX11_lay 81 = .ok (.aload_n 0, 1) := by decide +kernel
theorem dX11_lay_82 : decode cX11_lay 82 = .ok (.getfield 26, 3) := by decide +kernel
theorem dX11_lay_85 : decode cX11_lay 85 = .ok (.invokevirtual 148, 3) := by decide +kernel
theorem dX11_lay_88 : decode cX11_lay 88 = .ok (.iconst 1, 1) := by decide +kernel
theorem dX11_lay_89 : decode cX11_lay 89 = .ok (.ireturn, 1) := by decide +kernel
theorem dX11_measure_0 : decode cX11_measure 0 = .ok (.iload_n 1, 1) := by decide +kernel
theorem dX11_measure_1 : decode cX11_measure 1 = .ok (.ifCond .lt 8, 3) := by decide +kernel
theorem dX11_measure_4 : decode cX11_measure 4 = .ok (.iload_n 1, 1) := by decide +kernel
theorem dX11_measure_5 : decode cX11_measure 5 = .ok (.iconst 2, 1) := by decide +kernel
theorem dX11_measure_6 : decode cX11_measure 6 = .ok (.if_icmp .le 9, 3) := by decide +kernel
theorem dX11_measure_9 : decode cX11_measure 9 = .ok (.aload_n 0, 1) := by decide +kernel
theorem dX11_measure_10 : decode cX11_measure 10 = .ok (.iconst 1, 1) := by decide +kernel
theorem dX11_measure_11 : decode cX11_measure 11 = .ok (.invokevirtual 107, 3) := by decide +kernel
theorem dX11_measure_14 : decode cX11_measure 14 = .ok (.ireturn, 1) := by decide +kernel
theorem dX11_measure_15 : decode cX11_measure 15 = .ok (.aload_n 0, 1) := by decide +kernel
theorem dX11_measure_16 : decode cX11_measure 16 = .ok (.invokevirtual 97, 3) := by decide +kernel
theorem dX11_measure_19 : decode cX11_measure 19 = .ok (.iconst 0, 1) := by decide +kernel
theorem dX11_measure_20 : decode cX11_measure 20 = .ok (.istore_n 2, 1) := by decide +kernel
theorem dX11_measure_21 : decode cX11_measure 21 = .ok (.iconst 1, 1) := by decide +kernel
theorem dX11_measure_22 : decode cX11_measure 22 = .ok (.istore_n 3, 1) := by decide +kernel
theorem dX11_measure_23 : decode cX11_measure 23 = .ok (.iload_n 3, 1) := by decide +kernel
theorem dX11_measure_24 : decode cX11_measure 24 = .ok (.aload_n 0, 1) := by decide +kernel
theorem dX11_measure_25 : decode cX11_measure 25 = .ok (.getfield 10, 3) := by decide +kernel
theorem dX11_measure_28 : decode cX11_measure 28 = .ok (.getfield 149, 3) := by decide +kernel
theorem dX11_measure_31 : decode cX11_measure 31 = .ok (.if_icmp .ge 71, 3) := by decide +kernel
theorem dX11_measure_34 : decode cX11_measure 34 = .ok (.iconst 0, 1) := by decide +kernel
theorem dX11_measure_35 : decode cX11_measure 35 = .ok (.istore 4, 2) := by decide +kernel
theorem dX11_measure_37 : decode cX11_measure 37 = .ok (.iload 4, 2) := by decide +kernel
theorem dX11_measure_39 : decode cX11_measure 39 = .ok (.iload_n 3, 1) := by decide +kernel
theorem dX11_measure_40 : decode cX11_measure 40 = .ok (.if_icmp .ge 56, 3) := by decide +kernel
theorem dX11_measure_43 : decode cX11_measure 43 = .ok (.aload_n 0, 1) := by decide +kernel
theorem dX11_measure_44 : decode cX11_measure 44 = .ok (.getfield 10, 3) := by decide +kernel
theorem dX11_measure_47 : decode cX11_measure 47 = .ok (.iload_n 3, 1) := by decide +kernel
theorem dX11_measure_48 : decode cX11_measure 48 = .ok (.iload 4, 2) := by decide +kernel
theorem dX11_measure_50 : decode cX11_measure 50 = .ok (.iload_n 1, 1) := by decide +kernel
theorem dX11_measure_51 : decode cX11_measure 51 = .ok (.invokevirtual 152, 3) := by decide +kernel
theorem dX11_measure_54 : decode cX11_measure 54 = .ok (.istore 5, 2) := by decide +kernel
theorem dX11_measure_56 : decode cX11_measure 56 = .ok (.iload_n 2, 1) := by decide +kernel
theorem dX11_measure_57 : decode cX11_measure 57 = .ok (.iload 5, 2) := by decide +kernel
theorem dX11_measure_59 : decode cX11_measure 59 = .ok (.sipush 10000, 3) := by decide +kernel
theorem dX11_measure_62 : decode cX11_measure 62 = .ok (.if_icmp .le 7, 3) := by decide +kernel
theorem dX11_measure_65 : decode cX11_measure 65 = .ok (.iconst 1, 1) := by decide +kernel
theorem dX11_measure_66 : decode cX11_measure 66 = .ok (.goto 4, 3) := by decide +kernel
theorem dX11_measure_69 : decode cX11_measure 69 = .ok (.iconst 0, 1) := by decide +kernel
theorem dX11_measure_70 : decode cX11_measure 70 = .ok (.iadd, 1) := by decide +kernel
theorem dX11_measure_71 : decode cX11_measure 71 = .ok (.istore_n 2, 1) := by decide +kernel
theorem dX11_measure_72 : decode cX11_measure 72 = .ok (.aload_n 0, 1) := by decide +kernel
theorem dX11_measure_73 : decode cX11_measure 73 = .ok (.getfield 10, 3) := by decide +kernel
theorem dX11_measure_76 : decode cX11_measure 76 = .ok (.iload_n 3, 1) := by decide +kernel
theorem dX11_measure_77 : decode cX11_measure 77 = .ok (.iload 4, 2) := by decide +kernel
theorem dX11_measure_79 : decode cX11_measure 79 = .ok (.iload 5, 2) := by decide +kernel
theorem dX11_measure_81 : decode cX11_measure 81 = .ok (.sipush 10000, 3) := by decide +kernel
theorem dX11_measure_84 : decode cX11_measure 84 = .ok (.invokestatic 156, 3) := by decide +kernel
theorem dX11_measure_87 : decode cX11_measure 87 = .ok (.invokevirtual 115, 3) := by decide +kernel
theorem dX11_measure_90 : decode cX11_measure 90 = .ok (.iinc 4 1, 3) := by decide +kernel
theorem dX11_measure_93 : decode cX11_measure 93 = .ok (.goto (-56), 3) := by decide +kernel
theorem dX11_measure_96 : decode cX11_measure 96 = .ok (.iinc 3 1, 3) := by decide +kernel
theorem dX11_measure_99 : decode cX11_measure 99 = .ok (.goto (-76), 3) := by decide +kernel
theorem dX11_measure_102 : decode cX11_measure 102 = .ok (.iload_n 2, 1) := by decide +kernel
theorem dX11_measure_103 : decode cX11_measure 103 = .ok (.ireturn, 1) := by decide +kernel
theorem dX11_quarrel_0 : decode cX11_quarrel 0 = .ok (.aload_n 0, 1) := by decide +kernel
theorem dX11_quarrel_1 : decode cX11_quarrel 1 = .ok (.iload_n 1, 1) := by decide +kernel
theorem dX11_quarrel_2 : decode cX11_quarrel 2 = .ok (.iload_n 2, 1) := by decide +kernel
theorem dX11_quarrel_3 : decode cX11_quarrel 3 = .ok (.invokevirtual 103, 3) := by decide +kernel
theorem dX11_quarrel_6 : decode cX11_quarrel 6 = .ok (.ifCond .eq 14, 3) := by decide +kernel
theorem dX11_quarrel_9 : decode cX11_quarrel 9 = .ok (.iload_n 3, 1) := by decide +kernel
theorem dX11_quarrel_10 : decode cX11_quarrel 10 = .ok (.ifCond .lt 10, 3) := by decide +kernel
theorem dX11_quarrel_13 : decode cX11_quarrel 13 = .ok (.iload_n 3, 1) := by decide +kernel
theorem dX11_quarrel_14 : decode cX11_quarrel 14 = .ok (.sipush 1000, 3) := by decide +kernel
theorem dX11_quarrel_17 : decode cX11_quarrel 17 = .ok (.if_icmp .le 9, 3) := by decide +kernel
theorem dX11_quarrel_20 : decode cX11_quarrel 20 = .ok (.aload_n 0, 1) := by decide +kernel
theorem dX11_quarrel_21 : decode cX11_quarrel 21 = .ok (.iconst 1, 1) := by decide +kernel
theorem dX11_quarrel_22 : decode cX11_quarrel 22 = .ok (.invokevirtual 93, 3) := by decide +kernel
theorem dX11_quarrel_25 : decode cX11_quarrel 25 = .ok (.ireturn, 1) := by decide +kernel
theorem dX11_quarrel_26 : decode cX11_quarrel 26 = .ok (.aload_n 0, 1) := by decide +kernel
theorem dX11_quarrel_27 : decode cX11_quarrel 27 = .ok (.invokevirtual 97, 3) := by decide +kernel
theorem dX11_quarrel_30 : decode cX11_quarrel 30 = .ok (.aload_n 0, 1) := by decide +kernel
theorem dX11_quarrel_31 : decode cX11_quarrel 31 = .ok (.getfield 10, 3) := by decide +kernel
theorem dX11_quarrel_34 : decode cX11_quarrel 34 = .ok (.iload_n 1, 1) := by decide +kernel
theorem dX11_quarrel_35 : decode cX11_quarrel 35 = .ok (.iload_n 2, 1) := by decide +kernel
theorem dX11_quarrel_36 : decode cX11_quarrel 36 = .ok (.iload_n 3, 1) := by decide +kernel
theorem dX11_quarrel_37 : decode cX11_quarrel 37 = .ok (.iload 4, 2) := by decide +kernel
theorem dX11_quarrel_39 : decode cX11_quarrel 39 = .ok (.ifCond .eq 7, 3) := by decide +kernel
theorem dX11_quarrel_42 : decode cX11_quarrel 42 = .ok (.iconst 1, 1) := by decide +kernel
theorem dX11_quarrel_43 : decode cX11_quarrel 43 = .ok (.goto 4, 3) := by decide +kernel
theorem dX11_quarrel_46 : decode cX11_quarrel 46 = .ok (.iconst 0, 1) := by decide +kernel
theorem dX11_quarrel_47 : decode cX11_quarrel 47 = .ok (.invokevirtual 161, 3) := by decide +kernel
theorem dX11_quarrel_50 : decode cX11_quarrel 50 = .ok (.iconst 1, 1) := by decide +kernel
theorem dX11_quarrel_51 : decode cX11_quarrel 51 = .ok (.ireturn, 1) := by decide +kernel
theorem dX11_put_0 : decode cX11_put 0 = .ok (.aload_n 0, 1) := by decide +kernel
theorem dX11_put_1 : decode cX11_put 1 = .ok (.iload_n 1, 1) := by decide +kernel
theorem dX11_put_2 : decode cX11_put 2 = .ok (.invokevirtual 133, 3) := by decide +kernel
theorem dX11_put_5 : decode cX11_put 5 = .ok (.ifCond .eq 21, 3) := by decide +kernel
theorem dX11_put_8 : decode cX11_put 8 = .ok (.iload_n 2, 1) := by decide +kernel
theorem dX11_put_9 : decode cX11_put 9 = .ok (.ifCond .lt 17, 3) := by decide +kernel
theorem dX11_put_12 : decode cX11_put 12 = .ok (.iload_n 2, 1) := by decide +kernel
theorem dX11_put_13 : decode cX11_put 13 = .ok (.aload_n 0, 1) := by decide +kernel
theorem dX11_put_14 : decode cX11_put 14 = .ok (.getfield 10, 3) := by decide +kernel
theorem dX11_put_17 : decode cX11_put 17 = .ok (.getfield 165, 3) := by decide +kernel
theorem dX11_put_20 : decode cX11_put 20 = .ok (.getfield 168, 3) := by decide +kernel
theorem dX11_put_23 : decode cX11_put 23 = .ok (.if_icmp .le 9, 3) := by decide +kernel
theorem dX11_put_26 : decode cX11_put 26 = .ok (.aload_n 0, 1) := by decide +kernel
theorem dX11_put_27 : decode cX11_put 27 = .ok (.iconst 1, 1) := by decide +kernel
theorem dX11_put_28 : decode cX11_put 28 = .ok (.invokevirtual 107, 3) := by decide +kernel
theorem dX11_put_31 : decode cX11_put 31 = .ok (.ireturn, 1) := by decide +kernel
theorem dX11_put_32 : decode cX11_put 32 = .ok (.aload_n 0, 1) := by decide +kernel
theorem dX11_put_33 : decode cX11_put 33 = .ok (.invokevirtual 97, 3) := by decide +kernel
theorem dX11_put_36 : decode cX11_put 36 = .ok (.aload_n 0, 1) := by decide +kernel
theorem dX11_put_37 : decode cX11_put 37 = .ok (.getfield 10, 3) := by decide +kernel
theorem dX11_put_40 : decode cX11_put 40 = .ok (.getfield 165, 3) := by decide +kernel
theorem dX11_put_43 : decode cX11_put 43 = .ok (.getfield 171, 3) := by decide +kernel
theorem dX11_put_46 : decode cX11_put 46 = .ok (.iload_n 1, 1) := by decide +kernel
theorem dX11_put_47 : decode cX11_put 47 = .ok (.iload_n 2, 1) := by decide +kernel
theorem dX11_put_48 : decode cX11_put 48 = .ok (.iastore, 1) := by decide +kernel
theorem dX11_put_49 : decode cX11_put 49 = .ok (.aload_n 0, 1) := by decide +kernel
theorem dX11_put_50 : decode cX11_put 50 = .ok (.getfield 10, 3) := by decide +kernel
theorem dX11_put_53 : decode cX11_put 53 = .ok (.getfield 165, 3) := by decide +kernel
theorem dX11_put_56 : decode cX11_put 56 = .ok (.invokevirtual 174, 3) := by decide +kernel
theorem dX11_put_59 : decode cX11_put 59 = .ok (.aload_n 0, 1) := by decide +kernel
theorem dX11_put_60 : decode cX11_put 60 = .ok (.getfield 10, 3) := by decide +kernel
theorem dX11_put_63 : decode cX11_put 63 = .ok (.getfield 165, 3) := by decide +kernel
theorem dX11_put_66 : decode cX11_put 66 = .ok (.getfield 168, 3) := by decide +kernel
theorem dX11_put_69 : decode cX11_put 69 = .ok (.ireturn, 1) := by decide +kernel
theorem dX11_count_0 : decode cX11_count 0 = .ok (.aload_n 0, 1) := by decide +kernel
theorem dX11_count_1 : decode cX11_count 1 = .ok (.iconst 0, 1) := by decide +kernel
theorem dX11_count_2 : decode cX11_count 2 = .ok (.putfield 85, 3) := by decide +kernel
theorem dX11_count_5 : decode cX11_count 5 = .ok (.iload_n 1, 1) := by decide +kernel
theorem dX11_count_6 : decode cX11_count 6 = .ok (.tableswitch 89 0 5 #[38, 46, 57, 65, 73, 81], 38) := by decide +kernel
theorem dX11_count_44 : decode cX11_count 44 = .ok (.aload_n 0, 1) := by decide +kernel
theorem dX11_count_45 : decode cX11_count 45 = .ok (.getfield 10, 3) := by decide +kernel
theorem dX11_count_48 : decode cX11_count 48 = .ok (.getfield 149, 3) := by decide +kernel
theorem dX11_count_51 : decode cX11_count 51 = .ok (.ireturn, 1) := by decide +kernel
theorem dX11_count_52 : decode cX11_count 52 = .ok (.aload_n 0, 1) := by decide +kernel
theorem dX11_count_53 : decode cX11_count 53 = .ok (.getfield 10, 3) := by decide +kernel
theorem dX11_count_56 : decode cX11_count 56 = .ok (.getfield 165, 3) := by decide +kernel
theorem dX11_count_59 : decode cX11_count 59 = .ok (.getfield 168, 3) := by decide +kernel
theorem dX11_count_62 : decode cX11_count 62 = .ok (.ireturn, 1) := by decide +kernel
theorem dX11_count_63 : decode cX11_count 63 = .ok (.aload_n 0, 1) := by decide +kernel
theorem dX11_count_64 : decode cX11_count 64 = .ok (.getfield 19, 3) := by decide +kernel
theorem dX11_count_67 : decode cX11_count 67 = .ok (.getfield 177, 3) := by decide +kernel
theorem dX11_count_70 : decode cX11_count 70 = .ok (.ireturn, 1) := by decide +kernel
theorem dX11_count_71 : decode cX11_count 71 = .ok (.aload_n 0, 1) := by decide +kernel
theorem dX11_count_72 : decode cX11_count 72 = .ok (.getfield 33, 3) := by decide +kernel
theorem dX11_count_75 : decode cX11_count 75 = .ok (.getfield 178, 3) := by decide +kernel
theorem dX11_count_78 : decode cX11_count 78 = .ok (.ireturn, 1) := by decide +kernel
theorem dX11_count_79 : decode cX11_count 79 = .ok (.aload_n 0, 1) := by decide +kernel
theorem dX11_count_80 : decode cX11_count 80 = .ok (.getfield 44, 3) := by decide +kernel
theorem dX11_count_83 : decode cX11_count 83 = .ok (.getfield 179, 3) := by decide +kernel
theorem dX11_count_86 : decode cX11_count 86 = .ok (.ireturn, 1) := by decide +kernel
theorem dX11_count_87 : decode cX11_count 87 = .ok (.aload_n 0, 1) := by decide +kernel
theorem dX11_count_88 : decode cX11_count 88 = .ok (.getfield 26, 3) := by decide +kernel
theorem dX11_count_91 : decode cX11_count 91 = .ok (.getfield 123, 3) := by decide +kernel
theorem dX11_count_94 : decode cX11_count 94 = .ok (.ireturn, 1) := by decide +kernel
theorem dX11_count_95 : decode cX11_count 95 = .ok (.aload_n 0, 1) := by decide +kernel
theorem dX11_count_96 : decode cX11_count 96 = .ok (.iconst 1, 1) := by decide +kernel
theorem dX11_count_97 : decode cX11_count 97 = .ok (.invokevirtual 107, 3) := by decide +kernel
theorem dX11_count_100 : decode cX11_count 100 = .ok (.ireturn, 1) := by decide +kernel
theorem dX11_heap_0 : decode cX11_heap 0 = .ok (.aload_n 0, 1) := by decide +kernel
theorem dX11_heap_1 : decode cX11_heap 1 = .ok (.iload_n 1, 1) := by decide +kernel
theorem dX11_heap_2 : decode cX11_heap 2 = .ok (.invokevirtual 133, 3) := by decide +kernel
theorem dX11_heap_5 : decode cX11_heap 5 = .ok (.ifCond .ne 9, 3) := by decide +kernel
theorem dX11_heap_8 : decode cX11_heap 8 = .ok (.aload_n 0, 1) := by decide +kernel
theorem dX11_heap_9 : decode cX11_heap 9 = .ok (.iconst 1, 1) := by decide +kernel
theorem dX11_heap_10 : decode cX11_heap 10 = .ok (.invokevirtual 107, 3) := by decide +kernel
theorem dX11_heap_13 : decode cX11_heap 13 = .ok (.ireturn, 1) := by decide +kernel
theorem dX11_heap_14 : decode cX11_heap 14 = .ok (.aload_n 0, 1) := by decide +kernel
theorem dX11_heap_15 : decode cX11_heap 15 = .ok (.iconst 0, 1) := by decide +kernel
theorem dX11_heap_16 : decode cX11_heap 16 = .ok (.putfield 85, 3) := by decide +kernel
theorem dX11_heap_19 : decode cX11_heap 19 = .ok (.aload_n 0, 1) := by decide +kernel
theorem dX11_heap_20 : decode cX11_heap 20 = .ok (.getfield 10, 3) := by decide +kernel
theorem dX11_heap_23 : decode cX11_heap 23 = .ok (.getfield 165, 3) := by decide +kernel
theorem dX11_heap_26 : decode cX11_heap 26 = .ok (.getfield 171, 3) := by decide +kernel
theorem dX11_heap_29 : decode cX11_heap 29 = .ok (.iload_n 1, 1) := by decide +kernel
theorem dX11_heap_30 : decode cX11_heap 30 = .ok (.iaload, 1) := by decide +kernel
theorem dX11_heap_31 : decode cX11_heap 31 = .ok (.ireturn, 1) := by decide +kernel
theorem dX11_pair_0 : decode cX11_pair 0 = .ok (.aload_n 0, 1) := by decide +kernel
theorem dX11_pair_1 : decode cX11_pair 1 = .ok (.iload_n 1, 1) := by decide +kernel
theorem dX11_pair_2 : decode cX11_pair 2 = .ok (.invokevirtual 133, 3) := by decide +kernel
theorem dX11_pair_5 : decode cX11_pair 5 = .ok (.ifCond .eq 11, 3) := by decide +kernel
theorem dX11_pair_8 : decode cX11_pair 8 = .ok (.aload_n 0, 1) := by decide +kernel
theorem dX11_pair_9 : decode cX11_pair 9 = .ok (.iload_n 2, 1) := by decide +kernel
theorem dX11_pair_10 : decode cX11_pair 10 = .ok (.invokevirtual 133, 3) := by decide +kernel
theorem dX11_pair_13 : decode cX11_pair 13 = .ok (.ifCond .ne 9, 3) := by decide +kernel
theorem dX11_pair_16 : decode cX11_pair 16 = .ok (.aload_n 0, 1) := by decide +kernel
theorem dX11_pair_17 : decode cX11_pair 17 = .ok (.iconst 1, 1) := by decide +kernel
theorem dX11_pair_18 : decode cX11_pair 18 = .ok (.invokevirtual 107, 3) := by decide +kernel
theorem dX11_pair_21 : decode cX11_pair 21 = .ok (.ireturn, 1) := by decide +kernel
theorem dX11_pair_22 : decode cX11_pair 22 = .ok (.aload_n 0, 1) := by decide +kernel
theorem dX11_pair_23 : decode cX11_pair 23 = .ok (.iconst 0, 1) := by decide +kernel
theorem dX11_pair_24 : decode cX11_pair 24 = .ok (.putfield 85, 3) := by decide +kernel
theorem dX11_pair_27 : decode cX11_pair 27 = .ok (.iload_n 3, 1) := by decide +kernel
theorem dX11_pair_28 : decode cX11_pair 28 = .ok (.tableswitch 58 0 2 #[28, 38, 48], 28) := by decide +kernel
theorem dX11_pair_56 : decode cX11_pair 56 = .ok (.aload_n 0, 1) := by decide +kernel
theorem dX11_pair_57 : decode cX11_pair 57 = .ok (.getfield 10, 3) := by decide +kernel
theorem dX11_pair_60 : decode cX11_pair 60 = .ok (.iload_n 1, 1) := by decide +kernel
theorem dX11_pair_61 : decode cX11_pair 61 = .ok (.iload_n 2, 1) := by decide +kernel
theorem dX11_pair_62 : decode cX11_pair 62 = .ok (.invokevirtual 111, 3) := by decide +kernel
theorem dX11_pair_65 : decode cX11_pair 65 = .ok (.ireturn, 1) := by decide +kernel
theorem dX11_pair_66 : decode cX11_pair 66 = .ok (.aload_n 0, 1) := by decide +kernel
theorem dX11_pair_67 : decode cX11_pair 67 = .ok (.getfield 10, 3) := by decide +kernel
theorem dX11_pair_70 : decode cX11_pair 70 = .ok (.iload_n 1, 1) := by decide +kernel
theorem dX11_pair_71 : decode cX11_pair 71 = .ok (.iload_n 2, 1) := by decide +kernel
theorem dX11_pair_72 : decode cX11_pair 72 = .ok (.invokevirtual 180, 3) := by decide +kernel
theorem dX11_pair_75 : decode cX11_pair 75 = .ok (.ireturn, 1) := by decide +kernel
theorem dX11_pair_76 : decode cX11_pair 76 = .ok (.aload_n 0, 1) := by decide +kernel
theorem dX11_pair_77 : decode cX11_pair 77 = .ok (.getfield 10, 3) := by decide +kernel
theorem dX11_pair_80 : decode cX11_pair 80 = .ok (.iload_n 1, 1) := by decide +kernel
theorem dX11_pair_81 : decode cX11_pair 81 = .ok (.iload_n 2, 1) := by decide +kernel
theorem dX11_pair_82 : decode cX11_pair 82 = .ok (.invokevirtual 183, 3) := by decide +kernel
theorem dX11_pair_85 : decode cX11_pair 85 = .ok (.ireturn, 1) := by decide +kernel
theorem dX11_pair_86 : decode cX11_pair 86 = .ok (.aload_n 0, 1) := by decide +kernel
theorem dX11_pair_87 : decode cX11_pair 87 = .ok (.iconst 1, 1) := by decide +kernel
theorem dX11_pair_88 : decode cX11_pair 88 = .ok (.invokevirtual 107, 3) := by decide +kernel
theorem dX11_pair_91 : decode cX11_pair 91 = .ok (.ireturn, 1) := by decide +kernel
theorem dX11_cost_0 : decode cX11_cost 0 = .ok (.iload_n 1, 1) := by decide +kernel
theorem dX11_cost_1 : decode cX11_cost 1 = .ok (.invokestatic 186, 3) := by decide +kernel
theorem dX11_cost_4 : decode cX11_cost 4 = .ok (.ifCond .ne 10, 3) := by decide +kernel
end
section
theorem dX11_cost_7 : decode cX11_cost 7 = .ok (.aload_n 0, 1) := by decide +kernel
theorem dX11_cost_8 : decode cX11_cost 8 = .ok (.iconst 1, 1) := by decide +kernel
theorem dX11_cost_9 : decode cX11_cost 9 = .ok (.invokevirtual 107, 3) := by decide +kernel
theorem dX11_cost_12 : decode cX11_cost 12 = .ok (.i2l, 1) := by decide +kernel
theorem dX11_cost_13 : decode cX11_cost 13 = .ok (.lreturn, 1) := by decide +kernel
theorem dX11_cost_14 : decode cX11_cost 14 = .ok (.aload_n 0, 1) := by decide +kernel
theorem dX11_cost_15 : decode cX11_cost 15 = .ok (.iconst 0, 1) := by decide +kernel
theorem dX11_cost_16 : decode cX11_cost 16 = .ok (.putfield 85, 3) := by decide +kernel
theorem dX11_cost_19 : decode cX11_cost 19 = .ok (.aload_n 0, 1) := by decide +kernel
theorem dX11_cost_20 : decode cX11_cost 20 = .ok (.getfield 10, 3) := by decide +kernel
theorem dX11_cost_23 : decode cX11_cost 23 = .ok (.iload_n 1, 1) := by decide +kernel
theorem dX11_cost_24 : decode cX11_cost 24 = .ok (.aload_n 0, 1) := by decide +kernel
theorem dX11_cost_25 : decode cX11_cost 25 = .ok (.getfield 10, 3) := by decide +kernel
theorem dX11_cost_28 : decode cX11_cost 28 = .ok (.getfield 165, 3) := by decide +kernel
theorem dX11_cost_31 : decode cX11_cost 31 = .ok (.invokestatic 189, 3) := by decide +kernel
theorem dX11_cost_34 : decode cX11_cost 34 = .ok (.lreturn, 1) := by decide +kernel
theorem dX11_middle_0 : decode cX11_middle 0 = .ok (.iload_n 1, 1) := by decide +kernel
theorem dX11_middle_1 : decode cX11_middle 1 = .ok (.ifCond .lt 17, 3) := by decide +kernel
theorem dX11_middle_4 : decode cX11_middle 4 = .ok (.iload_n 1, 1) := by decide +kernel
theorem dX11_middle_5 : decode cX11_middle 5 = .ok (.aload_n 0, 1) := by decide +kernel
theorem dX11_middle_6 : decode cX11_middle 6 = .ok (.getfield 10, 3) := by decide +kernel
theorem dX11_middle_9 : decode cX11_middle 9 = .ok (.getfield 165, 3) := by decide +kernel
theorem dX11_middle_12 : decode cX11_middle 12 = .ok (.getfield 168, 3) := by decide +kernel
theorem dX11_middle_15 : decode cX11_middle 15 = .ok (.if_icmp .lt 9, 3) := by decide +kernel
theorem dX11_middle_18 : decode cX11_middle 18 = .ok (.aload_n 0, 1) := by decide +kernel
theorem dX11_middle_19 : decode cX11_middle 19 = .ok (.iconst 1, 1) := by decide +kernel
theorem dX11_middle_20 : decode cX11_middle 20 = .ok (.invokevirtual 107, 3) := by decide +kernel
theorem dX11_middle_23 : decode cX11_middle 23 = .ok (.ireturn, 1) := by decide +kernel
theorem dX11_middle_24 : decode cX11_middle 24 = .ok (.aload_n 0, 1) := by decide +kernel
theorem dX11_middle_25 : decode cX11_middle 25 = .ok (.iconst 0, 1) := by decide +kernel
theorem dX11_middle_26 : decode cX11_middle 26 = .ok (.putfield 85, 3) := by decide +kernel
theorem dX11_middle_29 : decode cX11_middle 29 = .ok (.aload_n 0, 1) := by decide +kernel
theorem dX11_middle_30 : decode cX11_middle 30 = .ok (.getfield 10, 3) := by decide +kernel
theorem dX11_middle_33 : decode cX11_middle 33 = .ok (.aload_n 0, 1) := by decide +kernel
theorem dX11_middle_34 : decode cX11_middle 34 = .ok (.getfield 10, 3) := by decide +kernel
theorem dX11_middle_37 : decode cX11_middle 37 = .ok (.getfield 165, 3) := by decide +kernel
theorem dX11_middle_40 : decode cX11_middle 40 = .ok (.iload_n 1, 1) := by decide +kernel
theorem dX11_middle_41 : decode cX11_middle 41 = .ok (.invokevirtual 195, 3) := by decide +kernel
theorem dX11_middle_44 : decode cX11_middle 44 = .ok (.invokestatic 198, 3) := by decide +kernel
theorem dX11_middle_47 : decode cX11_middle 47 = .ok (.ireturn, 1) := by decide +kernel
theorem dX11_best_0 : decode cX11_best 0 = .ok (.iload_n 1, 1) := by decide +kernel
theorem dX11_best_1 : decode cX11_best 1 = .ok (.invokestatic 186, 3) := by decide +kernel
theorem dX11_best_4 : decode cX11_best 4 = .ok (.ifCond .eq 18, 3) := by decide +kernel
theorem dX11_best_7 : decode cX11_best 7 = .ok (.iload_n 2, 1) := by decide +kernel
theorem dX11_best_8 : decode cX11_best 8 = .ok (.ifCond .lt 14, 3) := by decide +kernel
theorem dX11_best_11 : decode cX11_best 11 = .ok (.iload_n 2, 1) := by decide +kernel
theorem dX11_best_12 : decode cX11_best 12 = .ok (.aload_n 0, 1) := by decide +kernel
theorem dX11_best_13 : decode cX11_best 13 = .ok (.getfield 10, 3) := by decide +kernel
theorem dX11_best_16 : decode cX11_best 16 = .ok (.getfield 149, 3) := by decide +kernel
theorem dX11_best_19 : decode cX11_best 19 = .ok (.if_icmp .le 10, 3) := by decide +kernel
theorem dX11_best_22 : decode cX11_best 22 = .ok (.aload_n 0, 1) := by decide +kernel
theorem dX11_best_23 : decode cX11_best 23 = .ok (.iconst 1, 1) := by decide +kernel
theorem dX11_best_24 : decode cX11_best 24 = .ok (.invokevirtual 107, 3) := by decide +kernel
theorem dX11_best_27 : decode cX11_best 27 = .ok (.i2l, 1) := by decide +kernel
theorem dX11_best_28 : decode cX11_best 28 = .ok (.lreturn, 1) := by decide +kernel
theorem dX11_best_29 : decode cX11_best 29 = .ok (.aload_n 0, 1) := by decide +kernel
theorem dX11_best_30 : decode cX11_best 30 = .ok (.getfield 10, 3) := by decide +kernel
theorem dX11_best_33 : decode cX11_best 33 = .ok (.getfield 149, 3) := by decide +kernel
theorem dX11_best_36 : decode cX11_best 36 = .ok (.bipush 9, 2) := by decide +kernel
theorem dX11_best_38 : decode cX11_best 38 = .ok (.if_icmp .le 10, 3) := by decide +kernel
theorem dX11_best_41 : decode cX11_best 41 = .ok (.aload_n 0, 1) := by decide +kernel
theorem dX11_best_42 : decode cX11_best 42 = .ok (.iconst 3, 1) := by decide +kernel
theorem dX11_best_43 : decode cX11_best 43 = .ok (.invokevirtual 107, 3) := by decide +kernel
theorem dX11_best_46 : decode cX11_best 46 = .ok (.i2l, 1) := by decide +kernel
theorem dX11_best_47 : decode cX11_best 47 = .ok (.lreturn, 1) := by decide +kernel
theorem dX11_best_48 : decode cX11_best 48 = .ok (.aload_n 0, 1) := by decide +kernel
theorem dX11_best_49 : decode cX11_best 49 = .ok (.invokevirtual 97, 3) := by decide +kernel
theorem dX11_best_52 : decode cX11_best 52 = .ok (.iload_n 2, 1) := by decide +kernel
theorem dX11_best_53 : decode cX11_best 53 = .ok (.ifCond .ne 7, 3) := by decide +kernel
theorem dX11_best_56 : decode cX11_best 56 = .ok (.iconst 1, 1) := by decide +kernel
theorem dX11_best_57 : decode cX11_best 57 = .ok (.goto 4, 3) := by decide +kernel
theorem dX11_best_60 : decode cX11_best 60 = .ok (.iload_n 2, 1) := by decide +kernel
theorem dX11_best_61 : decode cX11_best 61 = .ok (.istore_n 3, 1) := by decide +kernel
theorem dX11_best_62 : decode cX11_best 62 = .ok (.iload_n 2, 1) := by decide +kernel
theorem dX11_best_63 : decode cX11_best 63 = .ok (.ifCond .ne 13, 3) := by decide +kernel
theorem dX11_best_66 : decode cX11_best 66 = .ok (.aload_n 0, 1) := by decide +kernel
theorem dX11_best_67 : decode cX11_best 67 = .ok (.getfield 10, 3) := by decide +kernel
theorem dX11_best_70 : decode cX11_best 70 = .ok (.getfield 149, 3) := by decide +kernel
theorem dX11_best_73 : decode cX11_best 73 = .ok (.goto 4, 3) := by decide +kernel
theorem dX11_best_76 : decode cX11_best 76 = .ok (.iload_n 2, 1) := by decide +kernel
theorem dX11_best_77 : decode cX11_best 77 = .ok (.istore 4, 2) := by decide +kernel
theorem dX11_best_79 : decode cX11_best 79 = .ok (.aload_n 0, 1) := by decide +kernel
theorem dX11_best_80 : decode cX11_best 80 = .ok (.getfield 53, 3) := by decide +kernel
theorem dX11_best_83 : decode cX11_best 83 = .ok (.iload_n 1, 1) := by decide +kernel
theorem dX11_best_84 : decode cX11_best 84 = .ok (.iload_n 3, 1) := by decide +kernel
theorem dX11_best_85 : decode cX11_best 85 = .ok (.iload 4, 2) := by decide +kernel
theorem dX11_best_87 : decode cX11_best 87 = .ok (.invokevirtual 202, 3) := by decide +kernel
theorem dX11_best_90 : decode cX11_best 90 = .ok (.lreturn, 1) := by decide +kernel
theorem dX11_line_0 : decode cX11_line 0 = .ok (.iload_n 1, 1) := by decide +kernel
theorem dX11_line_1 : decode cX11_line 1 = .ok (.ifCond .lt 24, 3) := by decide +kernel
theorem dX11_line_4 : decode cX11_line 4 = .ok (.iload_n 1, 1) := by decide +kernel
theorem dX11_line_5 : decode cX11_line 5 = .ok (.iconst 2, 1) := by decide +kernel
theorem dX11_line_6 : decode cX11_line 6 = .ok (.if_icmp .gt 19, 3) := by decide +kernel
theorem dX11_line_9 : decode cX11_line 9 = .ok (.iload_n 2, 1) := by decide +kernel
theorem dX11_line_10 : decode cX11_line 10 = .ok (.iconst 1, 1) := by decide +kernel
theorem dX11_line_11 : decode cX11_line 11 = .ok (.if_icmp .lt 14, 3) := by decide +kernel
theorem dX11_line_14 : decode cX11_line 14 = .ok (.iload_n 2, 1) := by decide +kernel
theorem dX11_line_15 : decode cX11_line 15 = .ok (.aload_n 0, 1) := by decide +kernel
theorem dX11_line_16 : decode cX11_line 16 = .ok (.getfield 10, 3) := by decide +kernel
theorem dX11_line_19 : decode cX11_line 19 = .ok (.getfield 149, 3) := by decide +kernel
theorem dX11_line_22 : decode cX11_line 22 = .ok (.if_icmp .le 10, 3) := by decide +kernel
theorem dX11_line_25 : decode cX11_line 25 = .ok (.aload_n 0, 1) := by decide +kernel
theorem dX11_line_26 : decode cX11_line 26 = .ok (.iconst 1, 1) := by decide +kernel
theorem dX11_line_27 : decode cX11_line 27 = .ok (.invokevirtual 107, 3) := by decide +kernel
theorem dX11_line_30 : decode cX11_line 30 = .ok (.i2l, 1) := by decide +kernel
theorem dX11_line_31 : decode cX11_line 31 = .ok (.lreturn, 1) := by decide +kernel
theorem dX11_line_32 : decode cX11_line 32 = .ok (.aload_n 0, 1) := by decide +kernel
theorem dX11_line_33 : decode cX11_line 33 = .ok (.invokevirtual 97, 3) := by decide +kernel
theorem dX11_line_36 : decode cX11_line 36 = .ok (.aload_n 0, 1) := by decide +kernel
theorem dX11_line_37 : decode cX11_line 37 = .ok (.getfield 60, 3) := by decide +kernel
theorem dX11_line_40 : decode cX11_line 40 = .ok (.aload_n 0, 1) := by decide +kernel
theorem dX11_line_41 : decode cX11_line 41 = .ok (.getfield 10, 3) := by decide +kernel
theorem dX11_line_44 : decode cX11_line 44 = .ok (.iload_n 1, 1) := by decide +kernel
theorem dX11_line_45 : decode cX11_line 45 = .ok (.iload_n 2, 1) := by decide +kernel
theorem dX11_line_46 : decode cX11_line 46 = .ok (.invokevirtual 206, 3) := by decide +kernel
theorem dX11_line_49 : decode cX11_line 49 = .ok (.lreturn, 1) := by decide +kernel
theorem dX11_better_0 : decode cX11_better 0 = .ok (.iload_n 1, 1) := by decide +kernel
theorem dX11_better_1 : decode cX11_better 1 = .ok (.invokestatic 186, 3) := by decide +kernel
theorem dX11_better_4 : decode cX11_better 4 = .ok (.ifCond .ne 9, 3) := by decide +kernel
theorem dX11_better_7 : decode cX11_better 7 = .ok (.aload_n 0, 1) := by decide +kernel
theorem dX11_better_8 : decode cX11_better 8 = .ok (.iconst 1, 1) := by decide +kernel
theorem dX11_better_9 : decode cX11_better 9 = .ok (.invokevirtual 107, 3) := by decide +kernel
theorem dX11_better_12 : decode cX11_better 12 = .ok (.ireturn, 1) := by decide +kernel
theorem dX11_better_13 : decode cX11_better 13 = .ok (.aload_n 0, 1) := by decide +kernel
theorem dX11_better_14 : decode cX11_better 14 = .ok (.invokevirtual 97, 3) := by decide +kernel
theorem dX11_better_17 : decode cX11_better 17 = .ok (.aload_n 0, 1) := by decide +kernel
theorem dX11_better_18 : decode cX11_better 18 = .ok (.getfield 67, 3) := by decide +kernel
theorem dX11_better_21 : decode cX11_better 21 = .ok (.aload_n 0, 1) := by decide +kernel
theorem dX11_better_22 : decode cX11_better 22 = .ok (.getfield 10, 3) := by decide +kernel
theorem dX11_better_25 : decode cX11_better 25 = .ok (.iload_n 1, 1) := by decide +kernel
theorem dX11_better_26 : decode cX11_better 26 = .ok (.invokevirtual 209, 3) := by decide +kernel
theorem dX11_better_29 : decode cX11_better 29 = .ok (.ireturn, 1) := by decide +kernel
theorem dX11_two_0 : decode cX11_two 0 = .ok (.aload_n 0, 1) := by decide +kernel
theorem dX11_two_1 : decode cX11_two 1 = .ok (.invokevirtual 97, 3) := by decide +kernel
theorem dX11_two_4 : decode cX11_two 4 = .ok (.aload_n 0, 1) := by decide +kernel
theorem dX11_two_5 : decode cX11_two 5 = .ok (.getfield 53, 3) := by decide +kernel
theorem dX11_two_8 : decode cX11_two 8 = .ok (.iconst 2, 1) := by decide +kernel
theorem dX11_two_9 : decode cX11_two 9 = .ok (.iconst 1, 1) := by decide +kernel
theorem dX11_two_10 : decode cX11_two 10 = .ok (.iconst 2, 1) := by decide +kernel
theorem dX11_two_11 : decode cX11_two 11 = .ok (.invokevirtual 202, 3) := by decide +kernel
theorem dX11_two_14 : decode cX11_two 14 = .ok (.l2i, 1) := by decide +kernel
theorem dX11_two_15 : decode cX11_two 15 = .ok (.ireturn, 1) := by decide +kernel
theorem dX11_centres_0 : decode cX11_centres 0 = .ok (.iload_n 1, 1) := by decide +kernel
theorem dX11_centres_1 : decode cX11_centres 1 = .ok (.iconst 1, 1) := by decide +kernel
theorem dX11_centres_2 : decode cX11_centres 2 = .ok (.if_icmp .lt 14, 3) := by decide +kernel
theorem dX11_centres_5 : decode cX11_centres 5 = .ok (.iload_n 1, 1) := by decide +kernel
theorem dX11_centres_6 : decode cX11_centres 6 = .ok (.aload_n 0, 1) := by decide +kernel
theorem dX11_centres_7 : decode cX11_centres 7 = .ok (.getfield 10, 3) := by decide +kernel
theorem dX11_centres_10 : decode cX11_centres 10 = .ok (.getfield 149, 3) := by decide +kernel
theorem dX11_centres_13 : decode cX11_centres 13 = .ok (.if_icmp .le 9, 3) := by decide +kernel
theorem dX11_centres_16 : decode cX11_centres 16 = .ok (.aload_n 0, 1) := by decide +kernel
theorem dX11_centres_17 : decode cX11_centres 17 = .ok (.iconst 1, 1) := by decide +kernel
theorem dX11_centres_18 : decode cX11_centres 18 = .ok (.invokevirtual 107, 3) := by decide +kernel
theorem dX11_centres_21 : decode cX11_centres 21 = .ok (.ireturn, 1) := by decide +kernel
theorem dX11_centres_22 : decode cX11_centres 22 = .ok (.aload_n 0, 1) := by decide +kernel
theorem dX11_centres_23 : decode cX11_centres 23 = .ok (.invokevirtual 97, 3) := by decide +kernel
theorem dX11_centres_26 : decode cX11_centres 26 = .ok (.aload_n 0, 1) := by decide +kernel
theorem dX11_centres_27 : decode cX11_centres 27 = .ok (.getfield 10, 3) := by decide +kernel
theorem dX11_centres_30 : decode cX11_centres 30 = .ok (.iload_n 1, 1) := by decide +kernel
theorem dX11_centres_31 : decode cX11_centres 31 = .ok (.invokevirtual 211, 3) := by decide +kernel
theorem dX11_centres_34 : decode cX11_centres 34 = .ok (.ireturn, 1) := by decide +kernel
theorem dX11_third_0 : decode cX11_third 0 = .ok (.aload_n 0, 1) := by decide +kernel
theorem dX11_third_1 : decode cX11_third 1 = .ok (.invokevirtual 97, 3) := by decide +kernel
theorem dX11_third_4 : decode cX11_third 4 = .ok (.aload_n 0, 1) := by decide +kernel
theorem dX11_third_5 : decode cX11_third 5 = .ok (.getfield 74, 3) := by decide +kernel
theorem dX11_third_8 : decode cX11_third 8 = .ok (.iload_n 1, 1) := by decide +kernel
theorem dX11_third_9 : decode cX11_third 9 = .ok (.aload_n 0, 1) := by decide +kernel
theorem dX11_third_10 : decode cX11_third 10 = .ok (.getfield 10, 3) := by decide +kernel
theorem dX11_third_13 : decode cX11_third 13 = .ok (.getfield 149, 3) := by decide +kernel
theorem dX11_third_16 : decode cX11_third 16 = .ok (.invokevirtual 214, 3) := by decide +kernel
theorem dX11_third_19 : decode cX11_third 19 = .ok (.aload_n 0, 1) := by decide +kernel
theorem dX11_third_20 : decode cX11_third 20 = .ok (.getfield 74, 3) := by decide +kernel
theorem dX11_third_23 : decode cX11_third 23 = .ok (.aload_n 0, 1) := by decide +kernel
theorem dX11_third_24 : decode cX11_third 24 = .ok (.getfield 10, 3) := by decide +kernel
theorem dX11_third_27 : decode cX11_third 27 = .ok (.invokevirtual 217, 3) := by decide +kernel
theorem dX11_third_30 : decode cX11_third 30 = .ok (.aload_n 0, 1) := by decide +kernel
theorem dX11_third_31 : decode cX11_third 31 = .ok (.getfield 10, 3) := by decide +kernel
theorem dX11_third_34 : decode cX11_third 34 = .ok (.iconst 3, 1) := by decide +kernel
theorem dX11_third_35 : decode cX11_third 35 = .ok (.aload_n 0, 1) := by decide +kernel
theorem dX11_third_36 : decode cX11_third 36 = .ok (.getfield 10, 3) := by decide +kernel
theorem dX11_third_39 : decode cX11_third 39 = .ok (.getfield 165, 3) := by decide +kernel
theorem dX11_third_42 : decode cX11_third 42 = .ok (.invokestatic 189, 3) := by decide +kernel
theorem dX11_third_45 : decode cX11_third 45 = .ok (.lreturn, 1) := by decide +kernel
theorem dX11_thirds_0 : decode cX11_thirds 0 = .ok (.aload_n 0, 1) := by decide +kernel
theorem dX11_thirds_1 : decode cX11_thirds 1 = .ok (.getfield 10, 3) := by decide +kernel
theorem dX11_thirds_4 : decode cX11_thirds 4 = .ok (.getfield 149, 3) := by decide +kernel
theorem dX11_thirds_7 : decode cX11_thirds 7 = .ok (.bipush 7, 2) := by decide +kernel
theorem dX11_thirds_9 : decode cX11_thirds 9 = .ok (.if_icmp .le 10, 3) := by decide +kernel
theorem dX11_thirds_12 : decode cX11_thirds 12 = .ok (.aload_n 0, 1) := by decide +kernel
theorem dX11_thirds_13 : decode cX11_thirds 13 = .ok (.iconst 3, 1) := by decide +kernel
theorem dX11_thirds_14 : decode cX11_thirds 14 = .ok (.invokevirtual 107, 3) := by decide +kernel
theorem dX11_thirds_17 : decode cX11_thirds 17 = .ok (.i2l, 1) := by decide +kernel
theorem dX11_thirds_18 : decode cX11_thirds 18 = .ok (.lreturn, 1) := by decide +kernel
theorem dX11_thirds_19 : decode cX11_thirds 19 = .ok (.aload_n 0, 1) := by decide +kernel
theorem dX11_thirds_20 : decode cX11_thirds 20 = .ok (.iconst 0, 1) := by decide +kernel
theorem dX11_thirds_21 : decode cX11_thirds 21 = .ok (.putfield 85, 3) := by decide +kernel
theorem dX11_thirds_24 : decode cX11_thirds 24 = .ok (.aload_n 0, 1) := by decide +kernel
theorem dX11_thirds_25 : decode cX11_thirds 25 = .ok (.getfield 74, 3) := by decide +kernel
theorem dX11_thirds_28 : decode cX11_thirds 28 = .ok (.aload_n 0, 1) := by decide +kernel
theorem dX11_thirds_29 : decode cX11_thirds 29 = .ok (.getfield 10, 3) := by decide +kernel
theorem dX11_thirds_32 : decode cX11_thirds 32 = .ok (.invokevirtual 220, 3) := by decide +kernel
theorem dX11_thirds_35 : decode cX11_thirds 35 = .ok (.lreturn, 1) := by decide +kernel
theorem dX11_rounds_0 : decode cX11_rounds 0 = .ok (.aload_n 0, 1) := by decide +kernel
theorem dX11_rounds_1 : decode cX11_rounds 1 = .ok (.iconst 0, 1) := by decide +kernel
theorem dX11_rounds_2 : decode cX11_rounds 2 = .ok (.putfield 85, 3) := by decide +kernel
theorem dX11_rounds_5 : decode cX11_rounds 5 = .ok (.aload_n 0, 1) := by decide +kernel
theorem dX11_rounds_6 : decode cX11_rounds 6 = .ok (.getfield 10, 3) := by decide +kernel
theorem dX11_rounds_9 : decode cX11_rounds 9 = .ok (.invokestatic 224, 3) := by decide +kernel
theorem dX11_rounds_12 : decode cX11_rounds 12 = .ok (.ireturn, 1) := by decide +kernel
theorem dX11_tree_0 : decode cX11_tree 0 = .ok (.iload_n 1, 1) := by decide +kernel
theorem dX11_tree_1 : decode cX11_tree 1 = .ok (.ifCond .lt 8, 3) := by decide +kernel
theorem dX11_tree_4 : decode cX11_tree 4 = .ok (.iload_n 1, 1) := by decide +kernel
theorem dX11_tree_5 : decode cX11_tree 5 = .ok (.iconst 1, 1) := by decide +kernel
theorem dX11_tree_6 : decode cX11_tree 6 = .ok (.if_icmp .le 9, 3) := by decide +kernel
theorem dX11_tree_9 : decode cX11_tree 9 = .ok (.aload_n 0, 1) := by decide +kernel
theorem dX11_tree_10 : decode cX11_tree 10 = .ok (.iconst 1, 1) := by decide +kernel
theorem dX11_tree_11 : decode cX11_tree 11 = .ok (.invokevirtual 107, 3) := by decide +kernel
theorem dX11_tree_14 : decode cX11_tree 14 = .ok (.ireturn, 1) := by decide +kernel
theorem dX11_tree_15 : decode cX11_tree 15 = .ok (.aload_n 0, 1) := by decide +kernel
theorem dX11_tree_16 : decode cX11_tree 16 = .ok (.iconst 0, 1) := by decide +kernel
theorem dX11_tree_17 : decode cX11_tree 17 = .ok (.putfield 85, 3) := by decide +kernel
theorem dX11_tree_20 : decode cX11_tree 20 = .ok (.aload_n 0, 1) := by decide +kernel
theorem dX11_tree_21 : decode cX11_tree 21 = .ok (.getfield 33, 3) := by decide +kernel
theorem dX11_tree_24 : decode cX11_tree 24 = .ok (.aload_n 0, 1) := by decide +kernel
theorem dX11_tree_25 : decode cX11_tree 25 = .ok (.getfield 10, 3) := by decide +kernel
theorem dX11_tree_28 : decode cX11_tree 28 = .ok (.iload_n 1, 1) := by decide +kernel
theorem dX11_tree_29 : decode cX11_tree 29 = .ok (.invokevirtual 228, 3) := by decide +kernel
theorem dX11_tree_32 : decode cX11_tree 32 = .ok (.aload_n 0, 1) := by decide +kernel
theorem dX11_tree_33 : decode cX11_tree 33 = .ok (.getfield 33, 3) := by decide +kernel
theorem dX11_tree_36 : decode cX11_tree 36 = .ok (.getfield 178, 3) := by decide +kernel
theorem dX11_tree_39 : decode cX11_tree 39 = .ok (.ireturn, 1) := by decide +kernel
theorem dX11_joined_0 : decode cX11_joined 0 = .ok (.aload_n 0, 1) := by decide +kernel
theorem dX11_joined_1 : decode cX11_joined 1 = .ok (.getfield 33, 3) := by decide +kernel
theorem dX11_joined_4 : decode cX11_joined 4 = .ok (.getfield 178, 3) := by decide +kernel
theorem dX11_joined_7 : decode cX11_joined 7 = .ok (.iconst (-1), 1) := by decide +kernel
theorem dX11_joined_8 : decode cX11_joined 8 = .ok (.if_icmp .ne 9, 3) := by decide +kernel
theorem dX11_joined_11 : decode cX11_joined 11 = .ok (.aload_n 0, 1) := by decide +kernel
theorem dX11_joined_12 : decode cX11_joined 12 = .ok (.iconst 2, 1) := by decide +kernel
theorem dX11_joined_13 : decode cX11_joined 13 = .ok (.invokevirtual 107, 3) := by decide +kernel
theorem dX11_joined_16 : decode cX11_joined 16 = .ok (.ireturn, 1) := by decide +kernel
theorem dX11_joined_17 : decode cX11_joined 17 = .ok (.iload_n 1, 1) := by decide +kernel
theorem dX11_joined_18 : decode cX11_joined 18 = .ok (.ifCond .lt 14, 3) := by decide +kernel
theorem dX11_joined_21 : decode cX11_joined 21 = .ok (.iload_n 1, 1) := by decide +kernel
theorem dX11_joined_22 : decode cX11_joined 22 = .ok (.aload_n 0, 1) := by decide +kernel
theorem dX11_joined_23 : decode cX11_joined 23 = .ok (.getfield 33, 3) := by decide +kernel
theorem dX11_joined_26 : decode cX11_joined 26 = .ok (.getfield 178, 3) := by decide +kernel
theorem dX11_joined_29 : decode cX11_joined 29 = .ok (.if_icmp .lt 9, 3) := by decide +kernel
theorem dX11_joined_32 : decode cX11_joined 32 = .ok (.aload_n 0, 1) := by decide +kernel
theorem dX11_joined_33 : decode cX11_joined 33 = .ok (.iconst 1, 1) := by decide +kernel
theorem dX11_joined_34 : decode cX11_joined 34 = .ok (.invokevirtual 107, 3) := by decide +kernel
theorem dX11_joined_37 : decode cX11_joined 37 = .ok (.ireturn, 1) := by decide +kernel
theorem dX11_joined_38 : decode cX11_joined 38 = .ok (.aload_n 0, 1) := by decide +kernel
theorem dX11_joined_39 : decode cX11_joined 39 = .ok (.iconst 0, 1) := by decide +kernel
theorem dX11_joined_40 : decode cX11_joined 40 = .ok (.putfield 85, 3) := by decide +kernel
theorem dX11_joined_43 : decode cX11_joined 43 = .ok (.iload_n 2, 1) := by decide +kernel
theorem dX11_joined_44 : decode cX11_joined 44 = .ok (.tableswitch 58 0 2 #[28, 38, 48], 28) := by decide +kernel
theorem dX11_joined_72 : decode cX11_joined 72 = .ok (.aload_n 0, 1) := by decide +kernel
theorem dX11_joined_73 : decode cX11_joined 73 = .ok (.getfield 33, 3) := by decide +kernel
theorem dX11_joined_76 : decode cX11_joined 76 = .ok (.getfield 232, 3) := by decide +kernel
theorem dX11_joined_79 : decode cX11_joined 79 = .ok (.iload_n 1, 1) := by decide +kernel
theorem dX11_joined_80 : decode cX11_joined 80 = .ok (.iaload, 1) := by decide +kernel
theorem dX11_joined_81 : decode cX11_joined 81 = .ok (.ireturn, 1) := by decide +kernel
theorem dX11_joined_82 : decode cX11_joined 82 = .ok (.aload_n 0, 1) := by decide +kernel
theorem dX11_joined_83 : decode cX11_joined 83 = .ok (.getfield 33, 3) := by decide +kernel
theorem dX11_joined_86 : decode cX11_joined 86 = .ok (.getfield 235, 3) := by decide +kernel
theorem dX11_joined_89 : decode cX11_joined 89 = .ok (.iload_n 1, 1) := by decide +kernel
theorem dX11_joined_90 : decode cX11_joined 90 = .ok (.iaload, 1) := by decide +kernel
theorem dX11_joined_91 : decode cX11_joined 91 = .ok (.ireturn, 1) := by decide +kernel
theorem dX11_joined_92 : decode cX11_joined 92 = .ok (.aload_n 0, 1) := by decide +kernel
theorem dX11_joined_93 : decode cX11_joined 93 = .ok (.getfield 33, 3) := by decide +kernel
theorem dX11_joined_96 : decode cX11_joined 96 = .ok (.getfield 238, 3) := by decide +kernel
theorem dX11_joined_99 : decode cX11_joined 99 = .ok (.iload_n 1, 1) := by decide +kernel
theorem dX11_joined_100 : decode cX11_joined 100 = .ok (.iaload, 1) := by decide +kernel
theorem dX11_joined_101 : decode cX11_joined 101 = .ok (.ireturn, 1) := by decide +kernel
theorem dX11_joined_102 : decode cX11_joined 102 = .ok (.aload_n 0, 1) := by decide +kernel
theorem dX11_joined_103 : decode cX11_joined 103 = .ok (.iconst 1, 1) := by decide +kernel
theorem dX11_joined_104 : decode cX11_joined 104 = .ok (.invokevirtual 107, 3) := by decide +kernel
theorem dX11_joined_107 : decode cX11_joined 107 = .ok (.ireturn, 1) := by decide +kernel
theorem dX11_height_0 : decode cX11_height 0 = .ok (.aload_n 0, 1) := by decide +kernel
theorem dX11_height_1 : decode cX11_height 1 = .ok (.iload_n 1, 1) := by decide +kernel
theorem dX11_height_2 : decode cX11_height 2 = .ok (.invokevirtual 133, 3) := by decide +kernel
theorem dX11_height_5 : decode cX11_height 5 = .ok (.ifCond .eq 11, 3) := by decide +kernel
theorem dX11_height_8 : decode cX11_height 8 = .ok (.aload_n 0, 1) := by decide +kernel
theorem dX11_height_9 : decode cX11_height 9 = .ok (.iload_n 2, 1) := by decide +kernel
theorem dX11_height_10 : decode cX11_height 10 = .ok (.invokevirtual 133, 3) := by decide +kernel
theorem dX11_height_13 : decode cX11_height 13 = .ok (.ifCond .ne 9, 3) := by decide +kernel
theorem dX11_height_16 : decode cX11_height 16 = .ok (.aload_n 0, 1) := by decide +kernel
theorem dX11_height_17 : decode cX11_height 17 = .ok (.iconst 1, 1) := by decide +kernel
theorem dX11_height_18 : decode cX11_height 18 = .ok (.invokevirtual 107, 3) := by decide +kernel
theorem dX11_height_21 : decode cX11_height 21 = .ok (.ireturn, 1) := by decide +kernel
theorem dX11_height_22 : decode cX11_height 22 = .ok (.aload_n 0, 1) := by decide +kernel
theorem dX11_height_23 : decode cX11_height 23 = .ok (.getfield 33, 3) := by decide +kernel
theorem dX11_height_26 : decode cX11_height 26 = .ok (.getfield 178, 3) := by decide +kernel
theorem dX11_height_29 : decode cX11_height 29 = .ok (.iconst (-1), 1) := by decide +kernel
theorem dX11_height_30 : decode cX11_height 30 = .ok (.if_icmp .ne 9, 3) := by decide +kernel
theorem dX11_height_33 : decode cX11_height 33 = .ok (.aload_n 0, 1) := by decide +kernel
theorem dX11_height_34 : decode cX11_height 34 = .ok (.iconst 2, 1) := by decide +kernel
theorem dX11_height_35 : decode cX11_height 35 = .ok (.invokevirtual 107, 3) := by decide +kernel
theorem dX11_height_38 : decode cX11_height 38 = .ok (.ireturn, 1) := by decide +kernel
theorem dX11_height_39 : decode cX11_height 39 = .ok (.aload_n 0, 1) := by decide +kernel
theorem dX11_height_40 : decode cX11_height 40 = .ok (.iconst 0, 1) := by decide +kernel
theorem dX11_height_41 : decode cX11_height 41 = .ok (.putfield 85, 3) := by decide +kernel
theorem dX11_height_44 : decode cX11_height 44 = .ok (.aload_n 0, 1) := by decide +kernel
theorem dX11_height_45 : decode cX11_height 45 = .ok (.getfield 33, 3) := by decide +kernel
theorem dX11_height_48 : decode cX11_height 48 = .ok (.iload_n 1, 1) := by decide +kernel
theorem dX11_height_49 : decode cX11_height 49 = .ok (.iload_n 2, 1) := by decide +kernel
theorem dX11_height_50 : decode cX11_height 50 = .ok (.invokevirtual 241, 3) := by decide +kernel
theorem dX11_height_53 : decode cX11_height 53 = .ok (.ireturn, 1) := by decide +kernel
theorem dX11_cut_0 : decode cX11_cut 0 = .ok (.aload_n 0, 1) := by decide +kernel
theorem dX11_cut_1 : decode cX11_cut 1 = .ok (.getfield 33, 3) := by decide +kernel
theorem dX11_cut_4 : decode cX11_cut 4 = .ok (.getfield 178, 3) := by decide +kernel
theorem dX11_cut_7 : decode cX11_cut 7 = .ok (.iconst (-1), 1) := by decide +kernel
theorem dX11_cut_8 : decode cX11_cut 8 = .ok (.if_icmp .ne 9, 3) := by decide +kernel
theorem dX11_cut_11 : decode cX11_cut 11 = .ok (.aload_n 0, 1) := by decide +kernel
theorem dX11_cut_12 : decode cX11_cut 12 = .ok (.iconst 2, 1) := by decide +kernel
theorem dX11_cut_13 : decode cX11_cut 13 = .ok (.invokevirtual 107, 3) := by decide +kernel
theorem dX11_cut_16 : decode cX11_cut 16 = .ok (.ireturn, 1) := by decide +kernel
theorem dX11_cut_17 : decode cX11_cut 17 = .ok (.aload_n 0, 1) := by decide +kernel
theorem dX11_cut_18 : decode cX11_cut 18 = .ok (.invokevirtual 97, 3) := by decide +kernel
theorem dX11_cut_21 : decode cX11_cut 21 = .ok (.aload_n 0, 1) := by decide +kernel
theorem dX11_cut_22 : decode cX11_cut 22 = .ok (.getfield 33, 3) := by decide +kernel
theorem dX11_cut_25 : decode cX11_cut 25 = .ok (.iload_n 1, 1) := by decide +kernel
theorem dX11_cut_26 : decode cX11_cut 26 = .ok (.aload_n 0, 1) := by decide +kernel
theorem dX11_cut_27 : decode cX11_cut 27 = .ok (.getfield 10, 3) := by decide +kernel
theorem dX11_cut_30 : decode cX11_cut 30 = .ok (.getfield 165, 3) := by decide +kernel
theorem dX11_cut_33 : decode cX11_cut 33 = .ok (.invokevirtual 244, 3) := by decide +kernel
theorem dX11_cut_36 : decode cX11_cut 36 = .ok (.aload_n 0, 1) := by decide +kernel
theorem dX11_cut_37 : decode cX11_cut 37 = .ok (.getfield 10, 3) := by decide +kernel
theorem dX11_cut_40 : decode cX11_cut 40 = .ok (.getfield 165, 3) := by decide +kernel
theorem dX11_cut_43 : decode cX11_cut 43 = .ok (.getfield 168, 3) := by decide +kernel
theorem dX11_cut_46 : decode cX11_cut 46 = .ok (.ireturn, 1) := by decide +kernel
theorem dX11_many_0 : decode cX11_many 0 = .ok (.iload_n 1, 1) := by decide +kernel
theorem dX11_many_1 : decode cX11_many 1 = .ok (.ifCond .lt 19, 3) := by decide +kernel
theorem dX11_many_4 : decode cX11_many 4 = .ok (.iload_n 1, 1) := by decide +kernel
theorem dX11_many_5 : decode cX11_many 5 = .ok (.bipush 12, 2) := by decide +kernel
theorem dX11_many_7 : decode cX11_many 7 = .ok (.if_icmp .gt 13, 3) := by decide +kernel
theorem dX11_many_10 : decode cX11_many 10 = .ok (.iload_n 2, 1) := by decide +kernel
theorem dX11_many_11 : decode cX11_many 11 = .ok (.ifCond .lt 9, 3) := by decide +kernel
theorem dX11_many_14 : decode cX11_many 14 = .ok (.iload_n 2, 1) := by decide +kernel
theorem dX11_many_15 : decode cX11_many 15 = .ok (.bipush 12, 2) := by decide +kernel
theorem dX11_many_17 : decode cX11_many 17 = .ok (.if_icmp .le 10, 3) := by decide +kernel
theorem dX11_many_20 : decode cX11_many 20 = .ok (.aload_n 0, 1) := by decide +kernel
theorem dX11_many_21 : decode cX11_many 21 = .ok (.iconst 1, 1) := by decide +kernel
theorem dX11_many_22 : decode cX11_many 22 = .ok (.invokevirtual 107, 3) := by decide +kernel
theorem dX11_many_25 : decode cX11_many 25 = .ok (.i2l, 1) := by decide +kernel
theorem dX11_many_26 : decode cX11_many 26 = .ok (.lreturn, 1) := by decide +kernel
theorem dX11_many_27 : decode cX11_many 27 = .ok (.aload_n 0, 1) := by decide +kernel
theorem dX11_many_28 : decode cX11_many 28 = .ok (.iconst 0, 1) := by decide +kernel
theorem dX11_many_29 : decode cX11_many 29 = .ok (.putfield 85, 3) := by decide +kernel
theorem dX11_many_32 : decode cX11_many 32 = .ok (.iload_n 2, 1) := by decide +kernel
theorem dX11_many_33 : decode cX11_many 33 = .ok (.ifCond .ne 14, 3) := by decide +kernel
theorem dX11_many_36 : decode cX11_many 36 = .ok (.aload_n 0, 1) := by decide +kernel
theorem dX11_many_37 : decode cX11_many 37 = .ok (.getfield 81, 3) := by decide +kernel
theorem dX11_many_40 : decode cX11_many 40 = .ok (.iload_n 1, 1) := by decide +kernel
theorem dX11_many_41 : decode cX11_many 41 = .ok (.invokevirtual 248, 3) := by decide +kernel
theorem dX11_many_44 : decode cX11_many 44 = .ok (.goto 12, 3) := by decide +kernel
theorem dX11_many_47 : decode cX11_many 47 = .ok (.aload_n 0, 1) := by decide +kernel
theorem dX11_many_48 : decode cX11_many 48 = .ok (.getfield 81, 3) := by decide +kernel
theorem dX11_many_51 : decode cX11_many 51 = .ok (.iload_n 1, 1) := by decide +kernel
theorem dX11_many_52 : decode cX11_many 52 = .ok (.iload_n 2, 1) := by decide +kernel
theorem dX11_many_53 : decode cX11_many 53 = .ok (.invokevirtual 252, 3) := by decide +kernel
theorem dX11_many_56 : decode cX11_many 56 = .ok (.lreturn, 1) := by decide +kernel
theorem dX11_rank_0 : decode cX11_rank 0 = .ok (.aload_n 0, 1) := by decide +kernel
theorem dX11_rank_1 : decode cX11_rank 1 = .ok (.iconst 0, 1) := by decide +kernel
theorem dX11_rank_2 : decode cX11_rank 2 = .ok (.putfield 85, 3) := by decide +kernel
theorem dX11_rank_5 : decode cX11_rank 5 = .ok (.aload_n 0, 1) := by decide +kernel
theorem dX11_rank_6 : decode cX11_rank 6 = .ok (.getfield 81, 3) := by decide +kernel
theorem dX11_rank_9 : decode cX11_rank 9 = .ok (.aload_n 0, 1) := by decide +kernel
theorem dX11_rank_10 : decode cX11_rank 10 = .ok (.getfield 10, 3) := by decide +kernel
theorem dX11_rank_13 : decode cX11_rank 13 = .ok (.getfield 165, 3) := by decide +kernel
theorem dX11_rank_16 : decode cX11_rank 16 = .ok (.invokevirtual 256, 3) := by decide +kernel
theorem dX11_rank_19 : decode cX11_rank 19 = .ok (.lreturn, 1) := by decide +kernel
theorem dX11_of_0 : decode cX11_of 0 = .ok (.lload_n 1, 1) := by decide +kernel
theorem dX11_of_1 : decode cX11_of 1 = .ok (.lconst 0, 1) := by decide +kernel
theorem dX11_of_2 : decode cX11_of 2 = .ok (.lcmp, 1) := by decide +kernel
theorem dX11_of_3 : decode cX11_of 3 = .ok (.ifCond .lt 22, 3) := by decide +kernel
theorem dX11_of_6 : decode cX11_of 6 = .ok (.lload_n 1, 1) := by decide +kernel
theorem dX11_of_7 : decode cX11_of 7 = .ok (.aload_n 0, 1) := by decide +kernel
theorem dX11_of_8 : decode cX11_of 8 = .ok (.getfield 81, 3) := by decide +kernel
theorem dX11_of_11 : decode cX11_of 11 = .ok (.aload_n 0, 1) := by decide +kernel
theorem dX11_of_12 : decode cX11_of 12 = .ok (.getfield 10, 3) := by decide +kernel
theorem dX11_of_15 : decode cX11_of 15 = .ok (.getfield 149, 3) := by decide +kernel
theorem dX11_of_18 : decode cX11_of 18 = .ok (.invokevirtual 248, 3) := by decide +kernel
theorem dX11_of_21 : decode cX11_of 21 = .ok (.lcmp, 1) := by decide +kernel
theorem dX11_of_22 : decode cX11_of 22 = .ok (.ifCond .lt 9, 3) := by decide +kernel
theorem dX11_of_25 : decode cX11_of 25 = .ok (.aload_n 0, 1) := by decide +kernel
theorem dX11_of_26 : decode cX11_of 26 = .ok (.iconst 1, 1) := by decide +kernel
theorem dX11_of_27 : decode cX11_of 27 = .ok (.invokevirtual 93, 3) := by decide +kernel
theorem dX11_of_30 : decode cX11_of 30 = .ok (.ireturn, 1) := by decide +kernel
theorem dX11_of_31 : decode cX11_of 31 = .ok (.aload_n 0, 1) := by decide +kernel
theorem dX11_of_32 : decode cX11_of 32 = .ok (.invokevirtual 97, 3) := by decide +kernel
theorem dX11_of_35 : decode cX11_of 35 = .ok (.aload_n 0, 1) := by decide +kernel
theorem dX11_of_36 : decode cX11_of 36 = .ok (.getfield 81, 3) := by decide +kernel
theorem dX11_of_39 : decode cX11_of 39 = .ok (.lload_n 1, 1) := by decide +kernel
theorem dX11_of_40 : decode cX11_of 40 = .ok (.aload_n 0, 1) := by decide +kernel
theorem dX11_of_41 : decode cX11_of 41 = .ok (.getfield 10, 3) := by decide +kernel
theorem dX11_of_44 : decode cX11_of 44 = .ok (.getfield 165, 3) := by decide +kernel
theorem dX11_of_47 : decode cX11_of 47 = .ok (.invokevirtual 260, 3) := by decide +kernel
theorem dX11_of_50 : decode cX11_of 50 = .ok (.iconst 1, 1) := by decide +kernel
theorem dX11_of_51 : decode cX11_of 51 = .ok (.ireturn, 1) := by decide +kernel
theorem dX11_keep_0 : decode cX11_keep 0 = .ok (.iload_n 1, 1) := by decide +kernel
theorem dX11_keep_1 : decode cX11_keep 1 = .ok (.ifCond .lt 8, 3) := by decide +kernel
theorem dX11_keep_4 : decode cX11_keep 4 = .ok (.iload_n 1, 1) := by decide +kernel
theorem dX11_keep_5 : decode cX11_keep 5 = .ok (.iconst 4, 1) := by decide +kernel
theorem dX11_keep_6 : decode cX11_keep 6 = .ok (.if_icmp .lt 9, 3) := by decide +kernel
theorem dX11_keep_9 : decode cX11_keep 9 = .ok (.aload_n 0, 1) := by decide +kernel
theorem dX11_keep_10 : decode cX11_keep 10 = .ok (.iconst 1, 1) := by decide +kernel
theorem dX11_keep_11 : decode cX11_keep 11 = .ok (.invokevirtual 93, 3) := by decide +kernel
theorem dX11_keep_14 : decode cX11_keep 14 = .ok (.ireturn, 1) := by decide +kernel
theorem dX11_keep_15 : decode cX11_keep 15 = .ok (.aload_n 0, 1) := by decide +kernel
theorem dX11_keep_16 : decode cX11_keep 16 = .ok (.iconst 0, 1) := by decide +kernel
theorem dX11_keep_17 : decode cX11_keep 17 = .ok (.putfield 85, 3) := by decide +kernel
theorem dX11_keep_20 : decode cX11_keep 20 = .ok (.aload_n 0, 1) := by decide +kernel
theorem dX11_keep_21 : decode cX11_keep 21 = .ok (.getfield 39, 3) := by decide +kernel
theorem dX11_keep_24 : decode cX11_keep 24 = .ok (.iload_n 1, 1) := by decide +kernel
theorem dX11_keep_25 : decode cX11_keep 25 = .ok (.aaload, 1) := by decide +kernel
theorem dX11_keep_26 : decode cX11_keep 26 = .ok (.aload_n 0, 1) := by decide +kernel
theorem dX11_keep_27 : decode cX11_keep 27 = .ok (.getfield 10, 3) := by decide +kernel
theorem dX11_keep_30 : decode cX11_keep 30 = .ok (.getfield 165, 3) := by decide +kernel
theorem dX11_keep_33 : decode cX11_keep 33 = .ok (.invokevirtual 264, 3) := by decide +kernel
theorem dX11_keep_36 : decode cX11_keep 36 = .ok (.iconst 1, 1) := by decide +kernel
theorem dX11_keep_37 : decode cX11_keep 37 = .ok (.ireturn, 1) := by decide +kernel
theorem dX11_differ_0 : decode cX11_differ 0 = .ok (.aload_n 0, 1) := by decide +kernel
theorem dX11_differ_1 : decode cX11_differ 1 = .ok (.iload_n 1, 1) := by decide +kernel
theorem dX11_differ_2 : decode cX11_differ 2 = .ok (.invokevirtual 268, 3) := by decide +kernel
theorem dX11_differ_5 : decode cX11_differ 5 = .ok (.istore_n 2, 1) := by decide +kernel
theorem dX11_differ_6 : decode cX11_differ 6 = .ok (.iload_n 2, 1) := by decide +kernel
theorem dX11_differ_7 : decode cX11_differ 7 = .ok (.ifCond .eq 9, 3) := by decide +kernel
theorem dX11_differ_10 : decode cX11_differ 10 = .ok (.aload_n 0, 1) := by decide +kernel
theorem dX11_differ_11 : decode cX11_differ 11 = .ok (.iload_n 2, 1) := by decide +kernel
theorem dX11_differ_12 : decode cX11_differ 12 = .ok (.invokevirtual 107, 3) := by decide +kernel
theorem dX11_differ_15 : decode cX11_differ 15 = .ok (.ireturn, 1) := by decide +kernel
theorem dX11_differ_16 : decode cX11_differ 16 = .ok (.aload_n 0, 1) := by decide +kernel
theorem dX11_differ_17 : decode cX11_differ 17 = .ok (.iconst 0, 1) := by decide +kernel
theorem dX11_differ_18 : decode cX11_differ 18 = .ok (.putfield 85, 3) := by decide +kernel
theorem dX11_differ_21 : decode cX11_differ 21 = .ok (.aload_n 0, 1) := by decide +kernel
theorem dX11_differ_22 : decode cX11_differ 22 = .ok (.getfield 10, 3) := by decide +kernel
theorem dX11_differ_25 : decode cX11_differ 25 = .ok (.getfield 165, 3) := by decide +kernel
theorem dX11_differ_28 : decode cX11_differ 28 = .ok (.aload_n 0, 1) := by decide +kernel
theorem dX11_differ_29 : decode cX11_differ 29 = .ok (.getfield 39, 3) := by decide +kernel
theorem dX11_differ_32 : decode cX11_differ 32 = .ok (.iload_n 1, 1) := by decide +kernel
theorem dX11_differ_33 : decode cX11_differ 33 = .ok (.aaload, 1) := by decide +kernel
theorem dX11_differ_34 : decode cX11_differ 34 = .ok (.invokevirtual 271, 3) := by decide +kernel
theorem dX11_differ_37 : decode cX11_differ 37 = .ok (.ireturn, 1) := by decide +kernel
theorem dX11_both_0 : decode cX11_both 0 = .ok (.aload_n 0, 1) := by decide +kernel
theorem dX11_both_1 : decode cX11_both 1 = .ok (.iload_n 1, 1) := by decide +kernel
theorem dX11_both_2 : decode cX11_both 2 = .ok (.invokevirtual 268, 3) := by decide +kernel
theorem dX11_both_5 : decode cX11_both 5 = .ok (.istore_n 2, 1) := by decide +kernel
theorem dX11_both_6 : decode cX11_both 6 = .ok (.iload_n 2, 1) := by decide +kernel
theorem dX11_both_7 : decode cX11_both 7 = .ok (.ifCond .eq 9, 3) := by decide +kernel
theorem dX11_both_10 : decode cX11_both 10 = .ok (.aload_n 0, 1) := by decide +kernel
theorem dX11_both_11 : decode cX11_both 11 = .ok (.iload_n 2, 1) := by decide +kernel
theorem dX11_both_12 : decode cX11_both 12 = .ok (.invokevirtual 107, 3) := by decide +kernel
theorem dX11_both_15 : decode cX11_both 15 = .ok (.ireturn, 1) := by decide +kernel
theorem dX11_both_16 : decode cX11_both 16 = .ok (.aload_n 0, 1) := by decide +kernel
theorem dX11_both_17 : decode cX11_both 17 = .ok (.invokevirtual 97, 3) := by decide +kernel
theorem dX11_both_20 : decode cX11_both 20 = .ok (.aload_n 0, 1) := by decide +kernel
theorem dX11_both_21 : decode cX11_both 21 = .ok (.getfield 10, 3) := by decide +kernel
theorem dX11_both_24 : decode cX11_both 24 = .ok (.getfield 165, 3) := by decide +kernel
theorem dX11_both_27 : decode cX11_both 27 = .ok (.aload_n 0, 1) := by decide +kernel
theorem dX11_both_28 : decode cX11_both 28 = .ok (.getfield 39, 3) := by decide +kernel
theorem dX11_both_31 : decode cX11_both 31 = .ok (.iload_n 1, 1) := by decide +kernel
theorem dX11_both_32 : decode cX11_both 32 = .ok (.aaload, 1) := by decide +kernel
theorem dX11_both_33 : decode cX11_both 33 = .ok (.invokevirtual 275, 3) := by decide +kernel
theorem dX11_both_36 : decode cX11_both 36 = .ok (.aload_n 0, 1) := by decide +kernel
theorem dX11_both_37 : decode cX11_both 37 = .ok (.getfield 10, 3) := by decide +kernel
theorem dX11_both_40 : decode cX11_both 40 = .ok (.getfield 165, 3) := by decide +kernel
theorem dX11_both_43 : decode cX11_both 43 = .ok (.getfield 168, 3) := by decide +kernel
theorem dX11_both_46 : decode cX11_both 46 = .ok (.ireturn, 1) := by decide +kernel
theorem dX11_tell_0 : decode cX11_tell 0 = .ok (.iload_n 1, 1) := by decide +kernel
theorem dX11_tell_1 : decode cX11_tell 1 = .ok (.ifCond .lt 21, 3) := by decide +kernel
theorem dX11_tell_4 : decode cX11_tell 4 = .ok (.iload_n 1, 1) := by decide +kernel
theorem dX11_tell_5 : decode cX11_tell 5 = .ok (.bipush 12, 2) := by decide +kernel
theorem dX11_tell_7 : decode cX11_tell 7 = .ok (.if_icmp .ge 15, 3) := by decide +kernel
theorem dX11_tell_10 : decode cX11_tell 10 = .ok (.aload_n 0, 1) := by decide +kernel
theorem dX11_tell_11 : decode cX11_tell 11 = .ok (.getfield 44, 3) := by decide +kernel
theorem dX11_tell_14 : decode cX11_tell 14 = .ok (.getfield 179, 3) := by decide +kernel
theorem dX11_tell_17 : decode cX11_tell 17 = .ok (.bipush 12, 2) := by decide +kernel
theorem dX11_tell_19 : decode cX11_tell 19 = .ok (.if_icmp .lt 9, 3) := by decide +kernel
theorem dX11_tell_22 : decode cX11_tell 22 = .ok (.aload_n 0, 1) := by decide +kernel
theorem dX11_tell_23 : decode cX11_tell 23 = .ok (.iconst 1, 1) := by decide +kernel
theorem dX11_tell_24 : decode cX11_tell 24 = .ok (.invokevirtual 107, 3) := by decide +kernel
theorem dX11_tell_27 : decode cX11_tell 27 = .ok (.ireturn, 1) := by decide +kernel
theorem dX11_tell_28 : decode cX11_tell 28 = .ok (.aload_n 0, 1) := by decide +kernel
theorem dX11_tell_29 : decode cX11_tell 29 = .ok (.iconst 0, 1) := by decide +kernel
theorem dX11_tell_30 : decode cX11_tell 30 = .ok (.putfield 85, 3) := by decide +kernel
theorem dX11_tell_33 : decode cX11_tell 33 = .ok (.aload_n 0, 1) := by decide +kernel
theorem dX11_tell_34 : decode cX11_tell 34 = .ok (.getfield 44, 3) := by decide +kernel
theorem dX11_tell_37 : decode cX11_tell 37 = .ok (.getfield 171, 3) := by decide +kernel
theorem dX11_tell_40 : decode cX11_tell 40 = .ok (.aload_n 0, 1) := by decide +kernel
theorem dX11_tell_41 : decode cX11_tell 41 = .ok (.getfield 44, 3) := by decide +kernel
theorem dX11_tell_44 : decode cX11_tell 44 = .ok (.getfield 179, 3) := by decide +kernel
theorem dX11_tell_47 : decode cX11_tell 47 = .ok (.iload_n 1, 1) := by decide +kernel
theorem dX11_tell_48 : decode cX11_tell 48 = .ok (.iastore, 1) := by decide +kernel
theorem dX11_tell_49 : decode cX11_tell 49 = .ok (.aload_n 0, 1) := by decide +kernel
theorem dX11_tell_50 : decode cX11_tell 50 = .ok (.getfield 44, 3) := by decide +kernel
theorem dX11_tell_53 : decode cX11_tell 53 = .ok (.dup, 1) := by decide +kernel
theorem dX11_tell_54 : decode cX11_tell 54 = .ok (.getfield 179, 3) := by decide +kernel
theorem dX11_tell_57 : decode cX11_tell 57 = .ok (.iconst 1, 1) := by decide +kernel
theorem dX11_tell_58 : decode cX11_tell 58 = .ok (.iadd, 1) := by decide +kernel
theorem dX11_tell_59 : decode cX11_tell 59 = .ok (.putfield 179, 3) := by decide +kernel
theorem dX11_tell_62 : decode cX11_tell 62 = .ok (.aload_n 0, 1) := by decide +kernel
theorem dX11_tell_63 : decode cX11_tell 63 = .ok (.getfield 44, 3) := by decide +kernel
theorem dX11_tell_66 : decode cX11_tell 66 = .ok (.getfield 179, 3) := by decide +kernel
theorem dX11_tell_69 : decode cX11_tell 69 = .ok (.ireturn, 1) := by decide +kernel
theorem dX11_check_0 : decode cX11_check 0 = .ok (.iload_n 1, 1) := by decide +kernel
theorem dX11_check_1 : decode cX11_check 1 = .ok (.invokestatic 186, 3) := by decide +kernel
theorem dX11_check_4 : decode cX11_check 4 = .ok (.ifCond .ne 9, 3) := by decide +kernel
theorem dX11_check_7 : decode cX11_check 7 = .ok (.aload_n 0, 1) := by decide +kernel
theorem dX11_check_8 : decode cX11_check 8 = .ok (.iconst 1, 1) := by decide +kernel
theorem dX11_check_9 : decode cX11_check 9 = .ok (.invokevirtual 107, 3) := by decide +kernel
theorem dX11_check_12 : decode cX11_check 12 = .ok (.ireturn, 1) := by decide +kernel
theorem dX11_check_13 : decode cX11_check 13 = .ok (.aload_n 0, 1) := by decide +kernel
theorem dX11_check_14 : decode cX11_check 14 = .ok (.iconst 0, 1) := by decide +kernel
theorem dX11_check_15 : decode cX11_check 15 = .ok (.putfield 85, 3) := by decide +kernel
theorem dX11_check_18 : decode cX11_check 18 = .ok (.aload_n 0, 1) := by decide +kernel
theorem dX11_check_19 : decode cX11_check 19 = .ok (.getfield 44, 3) := by decide +kernel
theorem dX11_check_22 : decode cX11_check 22 = .ok (.getfield 179, 3) := by decide +kernel
theorem dX11_check_25 : decode cX11_check 25 = .ok (.istore 4, 2) := by decide +kernel
theorem dX11_check_27 : decode cX11_check 27 = .ok (.aload_n 0, 1) := by decide +kernel
theorem dX11_check_28 : decode cX11_check 28 = .ok (.getfield 44, 3) := by decide +kernel
theorem dX11_check_31 : decode cX11_check 31 = .ok (.invokevirtual 174, 3) := by decide +kernel
theorem dX11_check_34 : decode cX11_check 34 = .ok (.iload 4, 2) := by decide +kernel
theorem dX11_check_36 : decode cX11_check 36 = .ok (.aload_n 0, 1) := by decide +kernel
theorem dX11_check_37 : decode cX11_check 37 = .ok (.getfield 10, 3) := by decide +kernel
theorem dX11_check_40 : decode cX11_check 40 = .ok (.getfield 149, 3) := by decide +kernel
theorem dX11_check_43 : decode cX11_check 43 = .ok (.if_icmp .ne 18, 3) := by decide +kernel
theorem dX11_check_46 : decode cX11_check 46 = .ok (.aload_n 0, 1) := by decide +kernel
theorem dX11_check_47 : decode cX11_check 47 = .ok (.getfield 10, 3) := by decide +kernel
theorem dX11_check_50 : decode cX11_check 50 = .ok (.iload_n 1, 1) := by decide +kernel
theorem dX11_check_51 : decode cX11_check 51 = .ok (.aload_n 0, 1) := by decide +kernel
theorem dX11_check_52 : decode cX11_check 52 = .ok (.getfield 44, 3) := by decide +kernel
theorem dX11_check_55 : decode cX11_check 55 = .ok (.invokestatic 189, 3) := by decide +kernel
theorem dX11_check_58 : decode cX11_check 58 = .ok (.goto 4, 3) := by decide +kernel
theorem dX11_check_61 : decode cX11_check 61 = .ok (.lconst 0, 1) := by decide +kernel
theorem dX11_check_62 : decode cX11_check 62 = .ok (.lstore 5, 2) := by decide +kernel
theorem dX11_check_64 : decode cX11_check 64 = .ok (.aload_n 0, 1) := by decide +kernel
theorem dX11_check_65 : decode cX11_check 65 = .ok (.getfield 44, 3) := by decide +kernel
theorem dX11_check_68 : decode cX11_check 68 = .ok (.iconst 0, 1) := by decide +kernel
theorem dX11_check_69 : decode cX11_check 69 = .ok (.putfield 179, 3) := by decide +kernel
theorem dX11_check_72 : decode cX11_check 72 = .ok (.iload 4, 2) := by decide +kernel
theorem dX11_check_74 : decode cX11_check 74 = .ok (.aload_n 0, 1) := by decide +kernel
theorem dX11_check_75 : decode cX11_check 75 = .ok (.getfield 10, 3) := by decide +kernel
theorem dX11_check_78 : decode cX11_check 78 = .ok (.getfield 149, 3) := by decide +kernel
theorem dX11_check_81 : decode cX11_check 81 = .ok (.if_icmp .eq 5, 3) := by decide +kernel
theorem dX11_check_84 : decode cX11_check 84 = .ok (.iconst 0, 1) := by decide +kernel
theorem dX11_check_85 : decode cX11_check 85 = .ok (.ireturn, 1) := by decide +kernel
theorem dX11_check_86 : decode cX11_check 86 = .ok (.lload 5, 2) := by decide +kernel
theorem dX11_check_88 : decode cX11_check 88 = .ok (.lload_n 2, 1) := by decide +kernel
theorem dX11_check_89 : decode cX11_check 89 = .ok (.lcmp, 1) := by decide +kernel
theorem dX11_check_90 : decode cX11_check 90 = .ok (.ifCond .ne 7, 3) := by decide +kernel
theorem dX11_check_93 : decode cX11_check 93 = .ok (.iconst 2, 1) := by decide +kernel
theorem dX11_check_94 : decode cX11_check 94 = .ok (.goto 4, 3) := by decide +kernel
theorem dX11_check_97 : decode cX11_check 97 = .ok (.iconst 1, 1) := by decide +kernel
theorem dX11_check_98 : decode cX11_check 98 = .ok (.ireturn, 1) := by decide +kernel
theorem dX11_load_0 : decode cX11_load 0 = .ok (.aload_n 0, 1) := by decide +kernel
theorem dX11_load_1 : decode cX11_load 1 = .ok (.getfield 44, 3) := by decide +kernel
theorem dX11_load_4 : decode cX11_load 4 = .ok (.getfield 179, 3) := by decide +kernel
theorem dX11_load_7 : decode cX11_load 7 = .ok (.aload_n 0, 1) := by decide +kernel
theorem dX11_load_8 : decode cX11_load 8 = .ok (.getfield 10, 3) := by decide +kernel
theorem dX11_load_11 : decode cX11_load 11 = .ok (.getfield 149, 3) := by decide +kernel
theorem dX11_load_14 : decode cX11_load 14 = .ok (.if_icmp .eq 9, 3) := by decide +kernel
theorem dX11_load_17 : decode cX11_load 17 = .ok (.aload_n 0, 1) := by decide +kernel
theorem dX11_load_18 : decode cX11_load 18 = .ok (.iconst 1, 1) := by decide +kernel
theorem dX11_load_19 : decode cX11_load 19 = .ok (.invokevirtual 107, 3) := by decide +kernel
theorem dX11_load_22 : decode cX11_load 22 = .ok (.ireturn, 1) := by decide +kernel
theorem dX11_load_23 : decode cX11_load 23 = .ok (.aload_n 0, 1) := by decide +kernel
theorem dX11_load_24 : decode cX11_load 24 = .ok (.invokevirtual 97, 3) := by decide +kernel
theorem dX11_load_27 : decode cX11_load 27 = .ok (.aload_n 0, 1) := by decide +kernel
theorem dX11_load_28 : decode cX11_load 28 = .ok (.getfield 10, 3) := by decide +kernel
theorem dX11_load_31 : decode cX11_load 31 = .ok (.getfield 165, 3) := by decide +kernel
theorem dX11_load_34 : decode cX11_load 34 = .ok (.aload_n 0, 1) := by decide +kernel
theorem dX11_load_35 : decode cX11_load 35 = .ok (.getfield 44, 3) := by decide +kernel
theorem dX11_load_38 : decode cX11_load 38 = .ok (.invokevirtual 264, 3) := by decide +kernel
theorem dX11_load_41 : decode cX11_load 41 = .ok (.aload_n 0, 1) := by decide +kernel
theorem dX11_load_42 : decode cX11_load 42 = .ok (.getfield 10, 3) := by decide +kernel
theorem dX11_load_45 : decode cX11_load 45 = .ok (.getfield 165, 3) := by decide +kernel
theorem dX11_load_48 : decode cX11_load 48 = .ok (.invokevirtual 174, 3) := by decide +kernel
theorem dX11_load_51 : decode cX11_load 51 = .ok (.aload_n 0, 1) := by decide +kernel
theorem dX11_load_52 : decode cX11_load 52 = .ok (.getfield 44, 3) := by decide +kernel
theorem dX11_load_55 : decode cX11_load 55 = .ok (.iconst 0, 1) := by decide +kernel
theorem dX11_load_56 : decode cX11_load 56 = .ok (.putfield 179, 3) := by decide +kernel
theorem dX11_load_59 : decode cX11_load 59 = .ok (.aload_n 0, 1) := by decide +kernel
theorem dX11_load_60 : decode cX11_load 60 = .ok (.getfield 10, 3) := by decide +kernel
theorem dX11_load_63 : decode cX11_load 63 = .ok (.getfield 165, 3) := by decide +kernel
theorem dX11_load_66 : decode cX11_load 66 = .ok (.getfield 168, 3) := by decide +kernel
theorem dX11_load_69 : decode cX11_load 69 = .ok (.ireturn, 1) := by decide +kernel
theorem dX11_undo_0 : decode cX11_undo 0 = .ok (.aload_n 0, 1) := by decide +kernel
theorem dX11_undo_1 : decode cX11_undo 1 = .ok (.getfield 19, 3) := by decide +kernel
theorem dX11_undo_4 : decode cX11_undo 4 = .ok (.getfield 177, 3) := by decide +kernel
theorem dX11_undo_7 : decode cX11_undo 7 = .ok (.ifCond .ne 9, 3) := by decide +kernel
theorem dX11_undo_10 : decode cX11_undo 10 = .ok (.aload_n 0, 1) := by decide +kernel
theorem dX11_undo_11 : decode cX11_undo 11 = .ok (.iconst 2, 1) := by decide +kernel
theorem dX11_undo_12 : decode cX11_undo 12 = .ok (.invokevirtual 107, 3) := by decide +kernel
theorem dX11_undo_15 : decode cX11_undo 15 = .ok (.ireturn, 1) := by decide +kernel
theorem dX11_undo_16 : decode cX11_undo 16 = .ok (.aload_n 0, 1) := by decide +kernel
theorem dX11_undo_17 : decode cX11_undo 17 = .ok (.iconst 0, 1) := by decide +kernel
theorem dX11_undo_18 : decode cX11_undo 18 = .ok (.putfield 85, 3) := by decide +kernel
theorem dX11_undo_21 : decode cX11_undo 21 = .ok (.aload_n 0, 1) := by decide +kernel
theorem dX11_undo_22 : decode cX11_undo 22 = .ok (.getfield 19, 3) := by decide +kernel
theorem dX11_undo_25 : decode cX11_undo 25 = .ok (.aload_n 0, 1) := by decide +kernel
theorem dX11_undo_26 : decode cX11_undo 26 = .ok (.getfield 10, 3) := by decide +kernel
theorem dX11_undo_29 : decode cX11_undo 29 = .ok (.invokevirtual 278, 3) := by decide +kernel
theorem dX11_undo_32 : decode cX11_undo 32 = .ok (.aload_n 0, 1) := by decide +kernel
theorem dX11_undo_33 : decode cX11_undo 33 = .ok (.getfield 33, 3) := by decide +kernel
theorem dX11_undo_36 : decode cX11_undo 36 = .ok (.invokevirtual 100, 3) := by decide +kernel
theorem dX11_undo_39 : decode cX11_undo 39 = .ok (.aload_n 0, 1) := by decide +kernel
theorem dX11_undo_40 : decode cX11_undo 40 = .ok (.getfield 19, 3) := by decide +kernel
theorem dX11_undo_43 : decode cX11_undo 43 = .ok (.getfield 177, 3) := by decide +kernel
theorem dX11_undo_46 : decode cX11_undo 46 = .ok (.ireturn, 1) := by decide +kernel
theorem dX11_fault_0 : decode cX11_fault 0 = .ok (.aload_n 0, 1) := by decide +kernel
theorem dX11_fault_1 : decode cX11_fault 1 = .ok (.getfield 85, 3) := by decide +kernel
theorem dX11_fault_4 : decode cX11_fault 4 = .ok (.ireturn, 1) := by decide +kernel
theorem dX11_refuse_0 : decode cX11_refuse 0 = .ok (.aload_n 0, 1) := by decide +kernel
theorem dX11_refuse_1 : decode cX11_refuse 1 = .ok (.iload_n 1, 1) := by decide +kernel
theorem dX11_refuse_2 : decode cX11_refuse 2 = .ok (.putfield 85, 3) := by decide +kernel
theorem dX11_refuse_5 : decode cX11_refuse 5 = .ok (.iconst (-1), 1) := by decide +kernel
theorem dX11_refuse_6 : decode cX11_refuse 6 = .ok (.ireturn, 1) := by decide +kernel
theorem dX11_deny_0 : decode cX11_deny 0 = .ok (.aload_n 0, 1) := by decide +kernel
theorem dX11_deny_1 : decode cX11_deny 1 = .ok (.iload_n 1, 1) := by decide +kernel
theorem dX11_deny_2 : decode cX11_deny 2 = .ok (.putfield 85, 3) := by decide +kernel
theorem dX11_deny_5 : decode cX11_deny 5 = .ok (.iconst 0, 1) := by decide +kernel
theorem dX11_deny_6 : decode cX11_deny 6 = .ok (.ireturn, 1) := by decide +kernel
theorem dX11_change_0 : decode cX11_change 0 = .ok (.aload_n 0, 1) := by decide +kernel
theorem dX11_change_1 : decode cX11_change 1 = .ok (.iconst 0, 1) := by decide +kernel
theorem dX11_change_2 : decode cX11_change 2 = .ok (.putfield 85, 3) := by decide +kernel
theorem dX11_change_5 : decode cX11_change 5 = .ok (.aload_n 0, 1) := by decide +kernel
theorem dX11_change_6 : decode cX11_change 6 = .ok (.getfield 19, 3) := by decide +kernel
theorem dX11_change_9 : decode cX11_change 9 = .ok (.aload_n 0, 1) := by decide +kernel
theorem dX11_change_10 : decode cX11_change 10 = .ok (.getfield 10, 3) := by decide +kernel
theorem dX11_change_13 : decode cX11_change 13 = .ok (.invokevirtual 281, 3) := by decide +kernel
theorem dX11_change_16 : decode cX11_change 16 = .ok (.return_, 1) := by decide +kernel
theorem dX11_isThing_0 : decode cX11_isThing 0 = .ok (.iload_n 1, 1) := by decide +kernel
theorem dX11_isThing_1 : decode cX11_isThing 1 = .ok (.ifCond .lt 18, 3) := by decide +kernel
theorem dX11_isThing_4 : decode cX11_isThing 4 = .ok (.iload_n 1, 1) := by decide +kernel
theorem dX11_isThing_5 : decode cX11_isThing 5 = .ok (.aload_n 0, 1) := by decide +kernel
theorem dX11_isThing_6 : decode cX11_isThing 6 = .ok (.getfield 10, 3) := by decide +kernel
theorem dX11_isThing_9 : decode cX11_isThing 9 = .ok (.getfield 149, 3) := by decide +kernel
theorem dX11_isThing_12 : decode cX11_isThing 12 = .ok (.if_icmp .ge 7, 3) := by decide +kernel
theorem dX11_isThing_15 : decode cX11_isThing 15 = .ok (.iconst 1, 1) := by decide +kernel
theorem dX11_isThing_16 : decode cX11_isThing 16 = .ok (.goto 4, 3) := by decide +kernel
theorem dX11_isThing_19 : decode cX11_isThing 19 = .ok (.iconst 0, 1) := by decide +kernel
theorem dX11_isThing_20 : decode cX11_isThing 20 = .ok (.ireturn, 1) := by decide +kernel
theorem dX11_isCouple_0 : decode cX11_isCouple 0 = .ok (.aload_n 0, 1) := by decide +kernel
theorem dX11_isCouple_1 : decode cX11_isCouple 1 = .ok (.iload_n 1, 1) := by decide +kernel
theorem dX11_isCouple_2 : decode cX11_isCouple 2 = .ok (.invokevirtual 133, 3) := by decide +kernel
theorem dX11_isCouple_5 : decode cX11_isCouple 5 = .ok (.ifCond .eq 20, 3) := by decide +kernel
theorem dX11_isCouple_8 : decode cX11_isCouple 8 = .ok (.aload_n 0, 1) := by decide +kernel
theorem dX11_isCouple_9 : decode cX11_isCouple 9 = .ok (.iload_n 2, 1) := by decide +kernel
theorem dX11_isCouple_10 : decode cX11_isCouple 10 = .ok (.invokevirtual 133, 3) := by decide +kernel
theorem dX11_isCouple_13 : decode cX11_isCouple 13 = .ok (.ifCond .eq 12, 3) := by decide +kernel
theorem dX11_isCouple_16 : decode cX11_isCouple 16 = .ok (.iload_n 1, 1) := by decide +kernel
theorem dX11_isCouple_17 : decode cX11_isCouple 17 = .ok (.iload_n 2, 1) := by decide +kernel
theorem dX11_isCouple_18 : decode cX11_isCouple 18 = .ok (.if_icmp .eq 7, 3) := by decide +kernel
theorem dX11_isCouple_21 : decode cX11_isCouple 21 = .ok (.iconst 1, 1) := by decide +kernel
theorem dX11_isCouple_22 : decode cX11_isCouple 22 = .ok (.goto 4, 3) := by decide +kernel
theorem dX11_isCouple_25 : decode cX11_isCouple 25 = .ok (.iconst 0, 1) := by decide +kernel
theorem dX11_isCouple_26 : decode cX11_isCouple 26 = .ok (.ireturn, 1) := by decide +kernel
theorem dX11_isGoal_0 : decode cX11_isGoal 0 = .ok (.iload_n 0, 1) := by decide +kernel
theorem dX11_isGoal_1 : decode cX11_isGoal 1 = .ok (.ifCond .lt 12, 3) := by decide +kernel
theorem dX11_isGoal_4 : decode cX11_isGoal 4 = .ok (.iload_n 0, 1) := by decide +kernel
theorem dX11_isGoal_5 : decode cX11_isGoal 5 = .ok (.iconst 3, 1) := by decide +kernel
theorem dX11_isGoal_6 : decode cX11_isGoal 6 = .ok (.if_icmp .gt 7, 3) := by decide +kernel
theorem dX11_isGoal_9 : decode cX11_isGoal 9 = .ok (.iconst 1, 1) := by decide +kernel
theorem dX11_isGoal_10 : decode cX11_isGoal 10 = .ok (.goto 4, 3) := by decide +kernel
theorem dX11_isGoal_13 : decode cX11_isGoal 13 = .ok (.iconst 0, 1) := by decide +kernel
theorem dX11_isGoal_14 : decode cX11_isGoal 14 = .ok (.ireturn, 1) := by decide +kernel
theorem dX11_keepFault_0 : decode cX11_keepFault 0 = .ok (.iload_n 1, 1) := by decide +kernel
theorem dX11_keepFault_1 : decode cX11_keepFault 1 = .ok (.ifCond .lt 8, 3) := by decide +kernel
theorem dX11_keepFault_4 : decode cX11_keepFault 4 = .ok (.iload_n 1, 1) := by decide +kernel
theorem dX11_keepFault_5 : decode cX11_keepFault 5 = .ok (.iconst 4, 1) := by decide +kernel
theorem dX11_keepFault_6 : decode cX11_keepFault 6 = .ok (.if_icmp .lt 5, 3) := by decide +kernel
theorem dX11_keepFault_9 : decode cX11_keepFault 9 = .ok (.iconst 1, 1) := by decide +kernel
theorem dX11_keepFault_10 : decode cX11_keepFault 10 = .ok (.ireturn, 1) := by decide +kernel
theorem dX11_keepFault_11 : decode cX11_keepFault 11 = .ok (.aload_n 0, 1) := by decide +kernel
theorem dX11_keepFault_12 : decode cX11_keepFault 12 = .ok (.getfield 39, 3) := by decide +kernel
theorem dX11_keepFault_15 : decode cX11_keepFault 15 = .ok (.iload_n 1, 1) := by decide +kernel
theorem dX11_keepFault_16 : decode cX11_keepFault 16 = .ok (.aaload, 1) := by decide +kernel
theorem dX11_keepFault_17 : decode cX11_keepFault 17 = .ok (.getfield 179, 3) := by decide +kernel
theorem dX11_keepFault_20 : decode cX11_keepFault 20 = .ok (.aload_n 0, 1) := by decide +kernel
theorem dX11_keepFault_21 : decode cX11_keepFault 21 = .ok (.getfield 10, 3) := by decide +kernel
theorem dX11_keepFault_24 : decode cX11_keepFault 24 = .ok (.getfield 149, 3) := by decide +kernel
theorem dX11_keepFault_27 : decode cX11_keepFault 27 = .ok (.if_icmp .ne 7, 3) := by decide +kernel
theorem dX11_keepFault_30 : decode cX11_keepFault 30 = .ok (.iconst 0, 1) := by decide +kernel
theorem dX11_keepFault_31 : decode cX11_keepFault 31 = .ok (.goto 4, 3) := by decide +kernel
theorem dX11_keepFault_34 : decode cX11_keepFault 34 = .ok (.iconst 2, 1) := by decide +kernel
theorem dX11_keepFault_35 : decode cX11_keepFault 35 = .ok (.ireturn, 1) := by decide +kernel
theorem dX12_init_0 : decode cX12_init 0 = .ok (.aload_n 0, 1) := by decide +kernel
theorem dX12_init_1 : decode cX12_init 1 = .ok (.invokespecial 1, 3) := by decide +kernel
theorem dX12_init_4 : decode cX12_init 4 = .ok (.aload_n 0, 1) := by decide +kernel
theorem dX12_init_5 : decode cX12_init 5 = .ok (.bipush 21, 2) := by decide +kernel
theorem dX12_init_7 : decode cX12_init 7 = .ok (.newarray .int, 2) := by decide +kernel
theorem dX12_init_9 : decode cX12_init 9 = .ok (.putfield 9, 3) := by decide +kernel
theorem dX12_init_12 : decode cX12_init 12 = .ok (.aload_n 0, 1) := by decide +kernel
theorem dX12_init_13 : decode cX12_init 13 = .ok (.sipush 1008, 3) := by decide +kernel
theorem dX12_init_16 : decode cX12_init 16 = .ok (.newarray .int, 2) := by decide +kernel
theorem dX12_init_18 : decode cX12_init 18 = .ok (.putfield 13, 3) := by decide +kernel
theorem dX12_init_21 : decode cX12_init 21 = .ok (.aload_n 0, 1) := by decide +kernel
theorem dX12_init_22 : decode cX12_init 22 = .ok (.sipush 3024, 3) := by decide +kernel
theorem dX12_init_25 : decode cX12_init 25 = .ok (.newarray .int, 2) := by decide +kernel
theorem dX12_init_27 : decode cX12_init 27 = .ok (.putfield 16, 3) := by decide +kernel
theorem dX12_init_30 : decode cX12_init 30 = .ok (.aload_n 0, 1) := by decide +kernel
theorem dX12_init_31 : decode cX12_init 31 = .ok (.sipush 3024, 3) := by decide +kernel
theorem dX12_init_34 : decode cX12_init 34 = .ok (.newarray .int, 2) := by decide +kernel
theorem dX12_init_36 : decode cX12_init 36 = .ok (.putfield 19, 3) := by decide +kernel
theorem dX12_init_39 : decode cX12_init 39 = .ok (.aload_n 0, 1) := by decide +kernel
theorem dX12_init_40 : decode cX12_init 40 = .ok (.sipush 3024, 3) := by decide +kernel
theorem dX12_init_43 : decode cX12_init 43 = .ok (.newarray .boolean, 2) := by decide +kernel
theorem dX12_init_45 : decode cX12_init 45 = .ok (.putfield 22, 3) := by decide +kernel
theorem dX12_init_48 : decode cX12_init 48 = .ok (.aload_n 0, 1) := by decide +kernel
theorem dX12_init_49 : decode cX12_init 49 = .ok (.sipush 252, 3) := by decide +kernel
theorem dX12_init_52 : decode cX12_init 52 = .ok (.newarray .int, 2) := by decide +kernel
theorem dX12_init_54 : decode cX12_init 54 = .ok (.putfield 26, 3) := by decide +kernel
theorem dX12_init_57 : decode cX12_init 57 = .ok (.aload_n 0, 1) := by decide +kernel
theorem dX12_init_58 : decode cX12_init 58 = .ok (.iconst (-1), 1) := by decide +kernel
theorem dX12_init_59 : decode cX12_init 59 = .ok (.putfield 29, 3) := by decide +kernel
theorem dX12_init_62 : decode cX12_init 62 = .ok (.aload_n 0, 1) := by decide +kernel
theorem dX12_init_63 : decode cX12_init 63 = .ok (.bipush 8, 2) := by decide +kernel
theorem dX12_init_65 : decode cX12_init 65 = .ok (.newarray .long, 2) := by decide +kernel
theorem dX12_init_67 : decode cX12_init 67 = .ok (.putfield 33, 3) := by decide +kernel
theorem dX12_init_70 : decode cX12_init 70 = .ok (.aload_n 0, 1) := by decide +kernel
theorem dX12_init_71 : decode cX12_init 71 = .ok (.iconst (-1), 1) := by decide +kernel
theorem dX12_init_72 : decode cX12_init 72 = .ok (.putfield 37, 3) := by decide +kernel
theorem dX12_init_75 : decode cX12_init 75 = .ok (.aload_n 0, 1) := by decide +kernel
theorem dX12_init_76 : decode cX12_init 76 = .ok (.bipush 12, 2) := by decide +kernel
theorem dX12_init_78 : decode cX12_init 78 = .ok (.newarray .int, 2) := by decide +kernel
theorem dX12_init_80 : decode cX12_init 80 = .ok (.putfield 40, 3) := by decide +kernel
theorem dX12_init_83 : decode cX12_init 83 = .ok (.aload_n 0, 1) := by decide +kernel
theorem dX12_init_84 : decode cX12_init 84 = .ok (.bipush 12, 2) := by decide +kernel
theorem dX12_init_86 : decode cX12_init 86 = .ok (.newarray .int, 2) := by decide +kernel
theorem dX12_init_88 : decode cX12_init 88 = .ok (.putfield 43, 3) := by decide +kernel
theorem dX12_init_91 : decode cX12_init 91 = .ok (.aload_n 0, 1) := by decide +kernel
theorem dX12_init_92 : decode cX12_init 92 = .ok (.bipush 12, 2) := by decide +kernel
theorem dX12_init_94 : decode cX12_init 94 = .ok (.newarray .int, 2) := by decide +kernel
theorem dX12_init_96 : decode cX12_init 96 = .ok (.putfield 46, 3) := by decide +kernel
theorem dX12_init_99 : decode cX12_init 99 = .ok (.aload_n 0, 1) := by decide +kernel
theorem dX12_init_100 : decode cX12_init 100 = .ok (.iconst 4, 1) := by decide +kernel
theorem dX12_init_101 : decode cX12_init 101 = .ok (.newarray .int, 2) := by decide +kernel
theorem dX12_init_103 : decode cX12_init 103 = .ok (.putfield 49, 3) := by decide +kernel
theorem dX12_init_106 : decode cX12_init 106 = .ok (.aload_n 0, 1) := by decide +kernel
theorem dX12_init_107 : decode cX12_init 107 = .ok (.bipush 48, 2) := by decide +kernel
theorem dX12_init_109 : decode cX12_init 109 = .ok (.newarray .int, 2) := by decide +kernel
theorem dX12_init_111 : decode cX12_init 111 = .ok (.putfield 52, 3) := by decide +kernel
theorem dX12_init_114 : decode cX12_init 114 = .ok (.aload_n 0, 1) := by decide +kernel
theorem dX12_init_115 : decode cX12_init 115 = .ok (.bipush 12, 2) := by decide +kernel
theorem dX12_init_117 : decode cX12_init 117 = .ok (.newarray .int, 2) := by decide +kernel
theorem dX12_init_119 : decode cX12_init 119 = .ok (.putfield 55, 3) := by decide +kernel
theorem dX12_init_122 : decode cX12_init 122 = .ok (.aload_n 0, 1) := by decide +kernel
theorem dX12_init_123 : decode cX12_init 123 = .ok (.bipush 12, 2) := by decide +kernel
theorem dX12_init_125 : decode cX12_init 125 = .ok (.newarray .int, 2) := by decide +kernel
theorem dX12_init_127 : decode cX12_init 127 = .ok (.putfield 58, 3) := by decide +kernel
theorem dX12_init_130 : decode cX12_init 130 = .ok (.aload_n 0, 1) := by decide +kernel
theorem dX12_init_131 : decode cX12_init 131 = .ok (.bipush 12, 2) := by decide +kernel
theorem dX12_init_133 : decode cX12_init 133 = .ok (.newarray .int, 2) := by decide +kernel
theorem dX12_init_135 : decode cX12_init 135 = .ok (.putfield 61, 3) := by decide +kernel
theorem dX12_init_138 : decode cX12_init 138 = .ok (.aload_n 0, 1) := by decide +kernel
theorem dX12_init_139 : decode cX12_init 139 = .ok (.bipush 12, 2) := by decide +kernel
theorem dX12_init_141 : decode cX12_init 141 = .ok (.newarray .int, 2) := by decide +kernel
theorem dX12_init_143 : decode cX12_init 143 = .ok (.putfield 64, 3) := by decide +kernel
theorem dX12_init_146 : decode cX12_init 146 = .ok (.aload_n 0, 1) := by decide +kernel
theorem dX12_init_147 : decode cX12_init 147 = .ok (.sipush 144, 3) := by decide +kernel
theorem dX12_init_150 : decode cX12_init 150 = .ok (.newarray .int, 2) := by decide +kernel
theorem dX12_init_152 : decode cX12_init 152 = .ok (.putfield 67, 3) := by decide +kernel
theorem dX12_init_155 : decode cX12_init 155 = .ok (.aload_n 0, 1) := by decide +kernel
theorem dX12_init_156 : decode cX12_init 156 = .ok (.bipush 12, 2) := by decide +kernel
theorem dX12_init_158 : decode cX12_init 158 = .ok (.newarray .int, 2) := by decide +kernel
theorem dX12_init_160 : decode cX12_init 160 = .ok (.putfield 70, 3) := by decide +kernel
theorem dX12_init_163 : decode cX12_init 163 = .ok (.aload_n 0, 1) := by decide +kernel
theorem dX12_init_164 : decode cX12_init 164 = .ok (.iconst 1, 1) := by decide +kernel
theorem dX12_init_165 : decode cX12_init 165 = .ok (.invokevirtual 73, 3) := by decide +kernel
theorem dX12_init_168 : decode cX12_init 168 = .ok (.return_, 1) := by decide +kernel
theorem dX12_no_0 : decode cX12_no 0 = .ok (.aload_n 0, 1) := by decide +kernel
theorem dX12_no_1 : decode cX12_no 1 = .ok (.iload_n 1, 1) := by decide +kernel
theorem dX12_no_2 : decode cX12_no 2 = .ok (.putfield 77, 3) := by decide +kernel
theorem dX12_no_5 : decode cX12_no 5 = .ok (.iconst (-1), 1) := by decide +kernel
theorem dX12_no_6 : decode cX12_no 6 = .ok (.ireturn, 1) := by decide +kernel
theorem dX12_n_0 : decode cX12_n 0 = .ok (.aload_n 0, 1) := by decide +kernel
theorem dX12_n_1 : decode cX12_n 1 = .ok (.getfield 9, 3) := by decide +kernel
theorem dX12_n_4 : decode cX12_n 4 = .ok (.iconst 0, 1) := by decide +kernel
theorem dX12_n_5 : decode cX12_n 5 = .ok (.iaload, 1) := by decide +kernel
theorem dX12_n_6 : decode cX12_n 6 = .ok (.ireturn, 1) := by decide +kernel
theorem dX12_begin_0 : decode cX12_begin 0 = .ok (.aload_n 0, 1) := by decide +kernel
theorem dX12_begin_1 : decode cX12_begin 1 = .ok (.getfield 9, 3) := by decide +kernel
theorem dX12_begin_4 : decode cX12_begin 4 = .ok (.iconst 0, 1) := by decide +kernel
theorem dX12_begin_5 : decode cX12_begin 5 = .ok (.iload_n 1, 1) := by decide +kernel
theorem dX12_begin_6 : decode cX12_begin 6 = .ok (.iastore, 1) := by decide +kernel
theorem dX12_begin_7 : decode cX12_begin 7 = .ok (.iconst 0, 1) := by decide +kernel
theorem dX12_begin_8 : decode cX12_begin 8 = .ok (.istore_n 2, 1) := by decide +kernel
theorem dX12_begin_9 : decode cX12_begin 9 = .ok (.iload_n 2, 1) := by decide +kernel
theorem dX12_begin_10 : decode cX12_begin 10 = .ok (.bipush 48, 2) := by decide +kernel
theorem dX12_begin_12 : decode cX12_begin 12 = .ok (.if_icmp .ge 16, 3) := by decide +kernel
theorem dX12_begin_15 : decode cX12_begin 15 = .ok (.aload_n 0, 1) := by decide +kernel
theorem dX12_begin_16 : decode cX12_begin 16 = .ok (.getfield 13, 3) := by decide +kernel
theorem dX12_begin_19 : decode cX12_begin 19 = .ok (.iload_n 2, 1) := by decide +kernel
theorem dX12_begin_20 : decode cX12_begin 20 = .ok (.iconst 0, 1) := by decide +kernel
theorem dX12_begin_21 : decode cX12_begin 21 = .ok (.iastore, 1) := by decide +kernel
theorem dX12_begin_22 : decode cX12_begin 22 = .ok (.iinc 2 1, 3) := by decide +kernel
theorem dX12_begin_25 : decode cX12_begin 25 = .ok (.goto (-16), 3) := by decide +kernel
theorem dX12_begin_28 : decode cX12_begin 28 = .ok (.iconst 0, 1) := by decide +kernel
theorem dX12_begin_29 : decode cX12_begin 29 = .ok (.istore_n 2, 1) := by decide +kernel
theorem dX12_begin_30 : decode cX12_begin 30 = .ok (.iload_n 2, 1) := by decide +kernel
theorem dX12_begin_31 : decode cX12_begin 31 = .ok (.sipush 144, 3) := by decide +kernel
theorem dX12_begin_34 : decode cX12_begin 34 = .ok (.if_icmp .ge 30, 3) := by decide +kernel
theorem dX12_begin_37 : decode cX12_begin 37 = .ok (.aload_n 0, 1) := by decide +kernel
theorem dX12_begin_38 : decode cX12_begin 38 = .ok (.getfield 16, 3) := by decide +kernel
theorem dX12_begin_41 : decode cX12_begin 41 = .ok (.iload_n 2, 1) := by decide +kernel
theorem dX12_begin_42 : decode cX12_begin 42 = .ok (.iconst 0, 1) := by decide +kernel
theorem dX12_begin_43 : decode cX12_begin 43 = .ok (.iastore, 1) := by decide +kernel
theorem dX12_begin_44 : decode cX12_begin 44 = .ok (.aload_n 0, 1) := by decide +kernel
theorem dX12_begin_45 : decode cX12_begin 45 = .ok (.getfield 19, 3) := by decide +kernel
theorem dX12_begin_48 : decode cX12_begin 48 = .ok (.iload_n 2, 1) := by decide +kernel
theorem dX12_begin_49 : decode cX12_begin 49 = .ok (.iconst 0, 1) := by decide +kernel
theorem dX12_begin_50 : decode cX12_begin 50 = .ok (.iastore, 1) := by decide +kernel
theorem dX12_begin_51 : decode cX12_begin 51 = .ok (.aload_n 0, 1) := by decide +kernel
theorem dX12_begin_52 : decode cX12_begin 52 = .ok (.getfield 22, 3) := by decide +kernel
theorem dX12_begin_55 : decode cX12_begin 55 = .ok (.iload_n 2, 1) := by decide +kernel
theorem dX12_begin_56 : decode cX12_begin 56 = .ok (.iconst 0, 1) := by decide +kernel
theorem dX12_begin_57 : decode cX12_begin 57 = .ok (.bastore, 1) := by decide +kernel
theorem dX12_begin_58 : decode cX12_begin 58 = .ok (.iinc 2 1, 3) := by decide +kernel
theorem dX12_begin_61 : decode cX12_begin 61 = .ok (.goto (-31), 3) := by decide +kernel
theorem dX12_begin_64 : decode cX12_begin 64 = .ok (.iconst 0, 1) := by decide +kernel
theorem dX12_begin_65 : decode cX12_begin 65 = .ok (.istore_n 2, 1) := by decide +kernel
theorem dX12_begin_66 : decode cX12_begin 66 = .ok (.iload_n 2, 1) := by decide +kernel
theorem dX12_begin_67 : decode cX12_begin 67 = .ok (.bipush 12, 2) := by decide +kernel
theorem dX12_begin_69 : decode cX12_begin 69 = .ok (.if_icmp .ge 16, 3) := by decide +kernel
theorem dX12_begin_72 : decode cX12_begin 72 = .ok (.aload_n 0, 1) := by decide +kernel
theorem dX12_begin_73 : decode cX12_begin 73 = .ok (.getfield 26, 3) := by decide +kernel
theorem dX12_begin_76 : decode cX12_begin 76 = .ok (.iload_n 2, 1) := by decide +kernel
theorem dX12_begin_77 : decode cX12_begin 77 = .ok (.iconst 0, 1) := by decide +kernel
theorem dX12_begin_78 : decode cX12_begin 78 = .ok (.iastore, 1) := by decide +kernel
theorem dX12_begin_79 : decode cX12_begin 79 = .ok (.iinc 2 1, 3) := by decide +kernel
theorem dX12_begin_82 : decode cX12_begin 82 = .ok (.goto (-16), 3) := by decide +kernel
theorem dX12_begin_85 : decode cX12_begin 85 = .ok (.aload_n 0, 1) := by decide +kernel
theorem dX12_begin_86 : decode cX12_begin 86 = .ok (.iconst (-1), 1) := by decide +kernel
theorem dX12_begin_87 : decode cX12_begin 87 = .ok (.putfield 37, 3) := by decide +kernel
theorem dX12_begin_90 : decode cX12_begin 90 = .ok (.return_, 1) := by decide +kernel
theorem dX12_copy_0 : decode cX12_copy 0 = .ok (.aload_n 0, 1) := by decide +kernel
theorem dX12_copy_1 : decode cX12_copy 1 = .ok (.getfield 9, 3) := by decide +kernel
theorem dX12_copy_4 : decode cX12_copy 4 = .ok (.iload_n 2, 1) := by decide +kernel
theorem dX12_copy_5 : decode cX12_copy 5 = .ok (.aload_n 0, 1) := by decide +kernel
theorem dX12_copy_6 : decode cX12_copy 6 = .ok (.getfield 9, 3) := by decide +kernel
theorem dX12_copy_9 : decode cX12_copy 9 = .ok (.iload_n 1, 1) := by decide +kernel
theorem dX12_copy_10 : decode cX12_copy 10 = .ok (.iaload, 1) := by decide +kernel
theorem dX12_copy_11 : decode cX12_copy 11 = .ok (.iastore, 1) := by decide +kernel
theorem dX12_copy_12 : decode cX12_copy 12 = .ok (.iconst 0, 1) := by decide +kernel
theorem dX12_copy_13 : decode cX12_copy 13 = .ok (.istore_n 3, 1) := by decide +kernel
theorem dX12_copy_14 : decode cX12_copy 14 = .ok (.iload_n 3, 1) := by decide +kernel
theorem dX12_copy_15 : decode cX12_copy 15 = .ok (.bipush 48, 2) := by decide +kernel
theorem dX12_copy_17 : decode cX12_copy 17 = .ok (.if_icmp .ge 31, 3) := by decide +kernel
theorem dX12_copy_20 : decode cX12_copy 20 = .ok (.aload_n 0, 1) := by decide +kernel
theorem dX12_copy_21 : decode cX12_copy 21 = .ok (.getfield 13, 3) := by decide +kernel
theorem dX12_copy_24 : decode cX12_copy 24 = .ok (.bipush 48, 2) := by decide +kernel
theorem dX12_copy_26 : decode cX12_copy 26 = .ok (.iload_n 2, 1) := by decide +kernel
theorem dX12_copy_27 : decode cX12_copy 27 = .ok (.imul, 1) := by decide +kernel
theorem dX12_copy_28 : decode cX12_copy 28 = .ok (.iload_n 3, 1) := by decide +kernel
theorem dX12_copy_29 : decode cX12_copy 29 = .ok (.iadd, 1) := by decide +kernel
theorem dX12_copy_30 : decode cX12_copy 30 = .ok (.aload_n 0, 1) := by decide +kernel
theorem dX12_copy_31 : decode cX12_copy 31 = .ok (.getfield 13, 3) := by decide +kernel
theorem dX12_copy_34 : decode cX12_copy 34 = .ok (.bipush 48, 2) := by decide +kernel
theorem dX12_copy_36 : decode cX12_copy 36 = .ok (.iload_n 1, 1) := by decide +kernel
theorem dX12_copy_37 : decode cX12_copy 37 = .ok (.imul, 1) := by decide +kernel
theorem dX12_copy_38 : decode cX12_copy 38 = .ok (.iload_n 3, 1) := by decide +kernel
theorem dX12_copy_39 : decode cX12_copy 39 = .ok (.iadd, 1) := by decide +kernel
theorem dX12_copy_40 : decode cX12_copy 40 = .ok (.iaload, 1) := by decide +kernel
theorem dX12_copy_41 : decode cX12_copy 41 = .ok (.iastore, 1) := by decide +kernel
theorem dX12_copy_42 : decode cX12_copy 42 = .ok (.iinc 3 1, 3) := by decide +kernel
theorem dX12_copy_45 : decode cX12_copy 45 = .ok (.goto (-31), 3) := by decide +kernel
theorem dX12_copy_48 : decode cX12_copy 48 = .ok (.iconst 0, 1) := by decide +kernel
theorem dX12_copy_49 : decode cX12_copy 49 = .ok (.istore_n 3, 1) := by decide +kernel
theorem dX12_copy_50 : decode cX12_copy 50 = .ok (.iload_n 3, 1) := by decide +kernel
theorem dX12_copy_51 : decode cX12_copy 51 = .ok (.sipush 144, 3) := by decide +kernel
theorem dX12_copy_54 : decode cX12_copy 54 = .ok (.if_icmp .ge 81, 3) := by decide +kernel
theorem dX12_copy_57 : decode cX12_copy 57 = .ok (.aload_n 0, 1) := by decide +kernel
theorem dX12_copy_58 : decode cX12_copy 58 = .ok (.getfield 16, 3) := by decide +kernel
theorem dX12_copy_61 : decode cX12_copy 61 = .ok (.sipush 144, 3) := by decide +kernel
theorem dX12_copy_64 : decode cX12_copy 64 = .ok (.iload_n 2, 1) := by decide +kernel
theorem dX12_copy_65 : decode cX12_copy 65 = .ok (.imul, 1) := by decide +kernel
theorem dX12_copy_66 : decode cX12_copy 66 = .ok (.iload_n 3, 1) := by decide +kernel
theorem dX12_copy_67 : decode cX12_copy 67 = .ok (.iadd, 1) := by decide +kernel
theorem dX12_copy_68 : decode cX12_copy 68 = .ok (.aload_n 0, 1) := by decide +kernel
theorem dX12_copy_69 : decode cX12_copy 69 = .ok (.getfield 16, 3) := by decide +kernel
theorem dX12_copy_72 : decode cX12_copy 72 = .ok (.sipush 144, 3) := by decide +kernel
theorem dX12_copy_75 : decode cX12_copy 75 = .ok (.iload_n 1, 1) := by decide +kernel
theorem dX12_copy_76 : decode cX12_copy 76 = .ok (.imul, 1) := by decide +kernel
theorem dX12_copy_77 : decode cX12_copy 77 = .ok (.iload_n 3, 1) := by decide +kernel
theorem dX12_copy_78 : decode cX12_copy 78 = .ok (.iadd, 1) := by decide +kernel
theorem dX12_copy_79 : decode cX12_copy 79 = .ok (.iaload, 1) := by decide +kernel
theorem dX12_copy_80 : decode cX12_copy 80 = .ok (.iastore, 1) := by decide +kernel
theorem dX12_copy_81 : decode cX12_copy 81 = .ok (.aload_n 0, 1) := by decide +kernel
theorem dX12_copy_82 : decode cX12_copy 82 = .ok (.getfield 19, 3) := by decide +kernel
theorem dX12_copy_85 : decode cX12_copy 85 = .ok (.sipush 144, 3) := by decide +kernel
theorem dX12_copy_88 : decode cX12_copy 88 = .ok (.iload_n 2, 1) := by decide +kernel
theorem dX12_copy_89 : decode cX12_copy 89 = .ok (.imul, 1) := by decide +kernel
theorem dX12_copy_90 : decode cX12_copy 90 = .ok (.iload_n 3, 1) := by decide +kernel
theorem dX12_copy_91 : decode cX12_copy 91 = .ok (.iadd, 1) := by decide +kernel
theorem dX12_copy_92 : decode cX12_copy 92 = .ok (.aload_n 0, 1) := by decide +kernel
theorem dX12_copy_93 : decode cX12_copy 93 = .ok (.getfield 19, 3) := by decide +kernel
theorem dX12_copy_96 : decode cX12_copy 96 = .ok (.sipush 144, 3) := by decide +kernel
theorem dX12_copy_99 : decode cX12_copy 99 = .ok (.iload_n 1, 1) := by decide +kernel
theorem dX12_copy_100 : decode cX12_copy 100 = .ok (.imul, 1) := by decide +kernel
theorem dX12_copy_101 : decode cX12_copy 101 = .ok (.iload_n 3, 1) := by decide +kernel
theorem dX12_copy_102 : decode cX12_copy 102 = .ok (.iadd, 1) := by decide +kernel
theorem dX12_copy_103 : decode cX12_copy 103 = .ok (.iaload, 1) := by decide +kernel
theorem dX12_copy_104 : decode cX12_copy 104 = .ok (.iastore, 1) := by decide +kernel
theorem dX12_copy_105 : decode cX12_copy 105 = .ok (.aload_n 0, 1) := by decide +kernel
theorem dX12_copy_106 : decode cX12_copy 106 = .ok (.getfield 22, 3) := by decide +kernel
theorem dX12_copy_109 : decode cX12_copy 109 = .ok (.sipush 144, 3) := by decide +kernel
theorem dX12_copy_112 : decode cX12_copy 112 = .ok (.iload_n 2, 1) := by decide +kernel
theorem dX12_copy_113 : decode cX12_copy 113 = .ok (.imul, 1) := by decide +kernel
theorem dX12_copy_114 : decode cX12_copy 114 = .ok (.iload_n 3, 1) := by decide +kernel
theorem dX12_copy_115 : decode cX12_copy 115 = .ok (.iadd, 1) := by decide +kernel
theorem dX12_copy_116 : decode cX12_copy 116 = .ok (.aload_n 0, 1) := by decide +kernel
theorem dX12_copy_117 : decode cX12_copy 117 = .ok (.getfield 22, 3) := by decide +kernel
theorem dX12_copy_120 : decode cX12_copy 120 = .ok (.sipush 144, 3) := by decide +kernel
theorem dX12_copy_123 : decode cX12_copy 123 = .ok (.iload_n 1, 1) := by decide +kernel
theorem dX12_copy_124 : decode cX12_copy 124 = .ok (.imul, 1) := by decide +kernel
theorem dX12_copy_125 : decode cX12_copy 125 = .ok (.iload_n 3, 1) := by decide +kernel
theorem dX12_copy_126 : decode cX12_copy 126 = .ok (.iadd, 1) := by decide +kernel
theorem dX12_copy_127 : decode cX12_copy 127 = .ok (.baload, 1) := by decide +kernel
theorem dX12_copy_128 : decode cX12_copy 128 = .ok (.bastore, 1) := by decide +kernel
theorem dX12_copy_129 : decode cX12_copy 129 = .ok (.iinc 3 1, 3) := by decide +kernel
theorem dX12_copy_132 : decode cX12_copy 132 = .ok (.goto (-82), 3) := by decide +kernel
theorem dX12_copy_135 : decode cX12_copy 135 = .ok (.iconst 0, 1) := by decide +kernel
theorem dX12_copy_136 : decode cX12_copy 136 = .ok (.istore_n 3, 1) := by decide +kernel
theorem dX12_copy_137 : decode cX12_copy 137 = .ok (.iload_n 3, 1) := by decide +kernel
theorem dX12_copy_138 : decode cX12_copy 138 = .ok (.bipush 12, 2) := by decide +kernel
theorem dX12_copy_140 : decode cX12_copy 140 = .ok (.if_icmp .ge 31, 3) := by decide +kernel
theorem dX12_copy_143 : decode cX12_copy 143 = .ok (.aload_n 0, 1) := by decide +kernel
theorem dX12_copy_144 : decode cX12_copy 144 = .ok (.getfield 26, 3) := by decide +kernel
theorem dX12_copy_147 : decode cX12_copy 147 = .ok (.bipush 12, 2) := by decide +kernel
theorem dX12_copy_149 : decode cX12_copy 149 = .ok (.iload_n 2, 1) := by decide +kernel
theorem dX12_copy_150 : decode cX12_copy 150 = .ok (.imul, 1) := by decide +kernel
theorem dX12_copy_151 : decode cX12_copy 151 = .ok (.iload_n 3, 1) := by decide +kernel
theorem dX12_copy_152 : decode cX12_copy 152 = .ok (.iadd, 1) := by decide +kernel
theorem dX12_copy_153 : decode cX12_copy 153 = .ok (.aload_n 0, 1) := by decide +kernel
theorem dX12_copy_154 : decode cX12_copy 154 = .ok (.getfield 26, 3) := by decide +kernel
theorem dX12_copy_157 : decode cX12_copy 157 = .ok (.bipush 12, 2) := by decide +kernel
theorem dX12_copy_159 : decode cX12_copy 159 = .ok (.iload_n 1, 1) := by decide +kernel
theorem dX12_copy_160 : decode cX12_copy 160 = .ok (.imul, 1) := by decide +kernel
theorem dX12_copy_161 : decode cX12_copy 161 = .ok (.iload_n 3, 1) := by decide +kernel
theorem dX12_copy_162 : decode cX12_copy 162 = .ok (.iadd, 1) := by decide +kernel
theorem dX12_copy_163 : decode cX12_copy 163 = .ok (.iaload, 1) := by decide +kernel
theorem dX12_copy_164 : decode cX12_copy 164 = .ok (.iastore, 1) := by decide +kernel
theorem dX12_copy_165 : decode cX12_copy 165 = .ok (.iinc 3 1, 3) := by decide +kernel
theorem dX12_copy_168 : decode cX12_copy 168 = .ok (.goto (-31), 3) := by decide +kernel
theorem dX12_copy_171 : decode cX12_copy 171 = .ok (.return_, 1) := by decide +kernel
theorem dX12_change_0 : decode cX12_change 0 = .ok (.aload_n 0, 1) := by decide +kernel
theorem dX12_change_1 : decode cX12_change 1 = .ok (.getfield 80, 3) := by decide +kernel
theorem dX12_change_4 : decode cX12_change 4 = .ok (.bipush 20, 2) := by decide +kernel
theorem dX12_change_6 : decode cX12_change 6 = .ok (.if_icmp .ne 19, 3) := by decide +kernel
theorem dX12_change_9 : decode cX12_change 9 = .ok (.aload_n 0, 1) := by decide +kernel
theorem dX12_change_10 : decode cX12_change 10 = .ok (.aload_n 0, 1) := by decide +kernel
theorem dX12_change_11 : decode cX12_change 11 = .ok (.getfield 83, 3) := by decide +kernel
theorem dX12_change_14 : decode cX12_change 14 = .ok (.iconst 1, 1) := by decide +kernel
theorem dX12_change_15 : decode cX12_change 15 = .ok (.iadd, 1) := by decide +kernel
theorem dX12_change_16 : decode cX12_change 16 = .ok (.bipush 20, 2) := by decide +kernel
theorem dX12_change_18 : decode cX12_change 18 = .ok (.irem, 1) := by decide +kernel
theorem dX12_change_19 : decode cX12_change 19 = .ok (.putfield 83, 3) := by decide +kernel
theorem dX12_change_22 : decode cX12_change 22 = .ok (.goto 13, 3) := by decide +kernel
theorem dX12_change_25 : decode cX12_change 25 = .ok (.aload_n 0, 1) := by decide +kernel
theorem dX12_change_26 : decode cX12_change 26 = .ok (.dup, 1) := by decide +kernel
theorem dX12_change_27 : decode cX12_change 27 = .ok (.getfield 80, 3) := by decide +kernel
theorem dX12_change_30 : decode cX12_change 30 = .ok (.iconst 1, 1) := by decide +kernel
theorem dX12_change_31 : decode cX12_change 31 = .ok (.iadd, 1) := by decide +kernel
theorem dX12_change_32 : decode cX12_change 32 = .ok (.putfield 80, 3) := by decide +kernel
theorem dX12_change_35 : decode cX12_change 35 = .ok (.aload_n 0, 1) := by decide +kernel
theorem dX12_change_36 : decode cX12_change 36 = .ok (.iconst 0, 1) := by decide +kernel
theorem dX12_change_37 : decode cX12_change 37 = .ok (.iconst 1, 1) := by decide +kernel
theorem dX12_change_38 : decode cX12_change 38 = .ok (.aload_n 0, 1) := by decide +kernel
theorem dX12_change_39 : decode cX12_change 39 = .ok (.getfield 83, 3) := by decide +kernel
theorem dX12_change_42 : decode cX12_change 42 = .ok (.aload_n 0, 1) := by decide +kernel
theorem dX12_change_43 : decode cX12_change 43 = .ok (.getfield 80, 3) := by decide +kernel
theorem dX12_change_46 : decode cX12_change 46 = .ok (.iadd, 1) := by decide +kernel
theorem dX12_change_47 : decode cX12_change 47 = .ok (.iconst 1, 1) := by decide +kernel
theorem dX12_change_48 : decode cX12_change 48 = .ok (.isub, 1) := by decide +kernel
theorem dX12_change_49 : decode cX12_change 49 = .ok (.bipush 20, 2) := by decide +kernel
theorem dX12_change_51 : decode cX12_change 51 = .ok (.irem, 1) := by decide +kernel
theorem dX12_change_52 : decode cX12_change 52 = .ok (.iadd, 1) := by decide +kernel
theorem dX12_change_53 : decode cX12_change 53 = .ok (.invokevirtual 86, 3) := by decide +kernel
theorem dX12_change_56 : decode cX12_change 56 = .ok (.return_, 1) := by decide +kernel
theorem dX12_isThing_0 : decode cX12_isThing 0 = .ok (.iload_n 1, 1) := by decide +kernel
theorem dX12_isThing_1 : decode cX12_isThing 1 = .ok (.ifCond .lt 15, 3) := by decide +kernel
theorem dX12_isThing_4 : decode cX12_isThing 4 = .ok (.iload_n 1, 1) := by decide +kernel
theorem dX12_isThing_5 : decode cX12_isThing 5 = .ok (.aload_n 0, 1) := by decide +kernel
theorem dX12_isThing_6 : decode cX12_isThing 6 = .ok (.invokevirtual 90, 3) := by decide +kernel
theorem dX12_isThing_9 : decode cX12_isThing 9 = .ok (.if_icmp .ge 7, 3) := by decide +kernel
theorem dX12_isThing_12 : decode cX12_isThing 12 = .ok (.iconst 1, 1) := by decide +kernel
theorem dX12_isThing_13 : decode cX12_isThing 13 = .ok (.goto 4, 3) := by decide +kernel
theorem dX12_isThing_16 : decode cX12_isThing 16 = .ok (.iconst 0, 1) := by decide +kernel
theorem dX12_isThing_17 : decode cX12_isThing 17 = .ok (.ireturn, 1) := by decide +kernel
theorem dX12_arePair_0 : decode cX12_arePair 0 = .ok (.aload_n 0, 1) := by decide +kernel
theorem dX12_arePair_1 : decode cX12_arePair 1 = .ok (.iload_n 1, 1) := by decide +kernel
theorem dX12_arePair_2 : decode cX12_arePair 2 = .ok (.invokevirtual 94, 3) := by decide +kernel
theorem dX12_arePair_5 : decode cX12_arePair 5 = .ok (.ifCond .eq 20, 3) := by decide +kernel
theorem dX12_arePair_8 : decode cX12_arePair 8 = .ok (.aload_n 0, 1) := by decide +kernel
theorem dX12_arePair_9 : decode cX12_arePair 9 = .ok (.iload_n 2, 1) := by decide +kernel
theorem dX12_arePair_10 : decode cX12_arePair 10 = .ok (.invokevirtual 94, 3) := by decide +kernel
theorem dX12_arePair_13 : decode cX12_arePair 13 = .ok (.ifCond .eq 12, 3) := by decide +kernel
theorem dX12_arePair_16 : decode cX12_arePair 16 = .ok (.iload_n 1, 1) := by decide +kernel
theorem dX12_arePair_17 : decode cX12_arePair 17 = .ok (.iload_n 2, 1) := by decide +kernel
theorem dX12_arePair_18 : decode cX12_arePair 18 = .ok (.if_icmp .eq 7, 3) := by decide +kernel
theorem dX12_arePair_21 : decode cX12_arePair 21 = .ok (.iconst 1, 1) := by decide +kernel
theorem dX12_arePair_22 : decode cX12_arePair 22 = .ok (.goto 4, 3) := by decide +kernel
theorem dX12_arePair_25 : decode cX12_arePair 25 = .ok (.iconst 0, 1) := by decide +kernel
theorem dX12_arePair_26 : decode cX12_arePair 26 = .ok (.ireturn, 1) := by decide +kernel
theorem dX12_things_0 : decode cX12_things 0 = .ok (.aload_n 0, 1) := by decide +kernel
theorem dX12_things_1 : decode cX12_things 1 = .ok (.iconst 0, 1) := by decide +kernel
theorem dX12_things_2 : decode cX12_things 2 = .ok (.putfield 77, 3) := by decide +kernel
theorem dX12_things_5 : decode cX12_things 5 = .ok (.iload_n 1, 1) := by decide +kernel
theorem dX12_things_6 : decode cX12_things 6 = .ok (.iconst 1, 1) := by decide +kernel
theorem dX12_things_7 : decode cX12_things 7 = .ok (.if_icmp .lt 9, 3) := by decide +kernel
theorem dX12_things_10 : decode cX12_things 10 = .ok (.iload_n 1, 1) := by decide +kernel
theorem dX12_things_11 : decode cX12_things 11 = .ok (.bipush 12, 2) := by decide +kernel
theorem dX12_things_13 : decode cX12_things 13 = .ok (.if_icmp .le 11, 3) := by decide +kernel
theorem dX12_things_16 : decode cX12_things 16 = .ok (.aload_n 0, 1) := by decide +kernel
theorem dX12_things_17 : decode cX12_things 17 = .ok (.iconst 1, 1) := by decide +kernel
theorem dX12_things_18 : decode cX12_things 18 = .ok (.invokevirtual 98, 3) := by decide +kernel
theorem dX12_things_21 : decode cX12_things 21 = .ok (.pop, 1) := by decide +kernel
theorem dX12_things_22 : decode cX12_things 22 = .ok (.iconst 0, 1) := by decide +kernel
theorem dX12_things_23 : decode cX12_things 23 = .ok (.ireturn, 1) := by decide +kernel
theorem dX12_things_24 : decode cX12_things 24 = .ok (.aload_n 0, 1) := by decide +kernel
theorem dX12_things_25 : decode cX12_things 25 = .ok (.invokevirtual 102, 3) := by decide +kernel
theorem dX12_things_28 : decode cX12_things 28 = .ok (.aload_n 0, 1) := by decide +kernel
theorem dX12_things_29 : decode cX12_things 29 = .ok (.iload_n 1, 1) := by decide +kernel
theorem dX12_things_30 : decode cX12_things 30 = .ok (.invokevirtual 73, 3) := by decide +kernel
theorem dX12_things_33 : decode cX12_things 33 = .ok (.iconst 1, 1) := by decide +kernel
theorem dX12_things_34 : decode cX12_things 34 = .ok (.ireturn, 1) := by decide +kernel
theorem dX12_setWay_0 : decode cX12_setWay 0 = .ok (.aload_n 0, 1) := by decide +kernel
theorem dX12_setWay_1 : decode cX12_setWay 1 = .ok (.getfield 16, 3) := by decide +kernel
theorem dX12_setWay_4 : decode cX12_setWay 4 = .ok (.bipush 12, 2) := by decide +kernel
theorem dX12_setWay_6 : decode cX12_setWay 6 = .ok (.iload_n 1, 1) := by decide +kernel
theorem dX12_setWay_7 : decode cX12_setWay 7 = .ok (.imul, 1) := by decide +kernel
theorem dX12_setWay_8 : decode cX12_setWay 8 = .ok (.iload_n 2, 1) := by decide +kernel
theorem dX12_setWay_9 : decode cX12_setWay 9 = .ok (.iadd, 1) := by decide +kernel
theorem dX12_setWay_10 : decode cX12_setWay 10 = .ok (.iload_n 3, 1) := by decide +kernel
theorem dX12_setWay_11 : decode cX12_setWay 11 = .ok (.iastore, 1) := by decide +kernel
theorem dX12_setWay_12 : decode cX12_setWay 12 = .ok (.aload_n 0, 1) := by decide +kernel
theorem dX12_setWay_13 : decode cX12_setWay 13 = .ok (.getfield 16, 3) := by decide +kernel
theorem dX12_setWay_16 : decode cX12_setWay 16 = .ok (.bipush 12, 2) := by decide +kernel
theorem dX12_setWay_18 : decode cX12_setWay 18 = .ok (.iload_n 2, 1) := by decide +kernel
theorem dX12_setWay_19 : decode cX12_setWay 19 = .ok (.imul, 1) := by decide +kernel
theorem dX12_setWay_20 : decode cX12_setWay 20 = .ok (.iload_n 1, 1) := by decide +kernel
theorem dX12_setWay_21 : decode cX12_setWay 21 = .ok (.iadd, 1) := by decide +kernel
theorem dX12_setWay_22 : decode cX12_setWay 22 = .ok (.iload_n 3, 1) := by decide +kernel
theorem dX12_setWay_23 : decode cX12_setWay 23 = .ok (.iastore, 1) := by decide +kernel
theorem dX12_setWay_24 : decode cX12_setWay 24 = .ok (.return_, 1) := by decide +kernel
theorem dX12_way_0 : decode cX12_way 0 = .ok (.aload_n 0, 1) := by decide +kernel
theorem dX12_way_1 : decode cX12_way 1 = .ok (.iconst 0, 1) := by decide +kernel
theorem dX12_way_2 : decode cX12_way 2 = .ok (.putfield 77, 3) := by decide +kernel
theorem dX12_way_5 : decode cX12_way 5 = .ok (.aload_n 0, 1) := by decide +kernel
theorem dX12_way_6 : decode cX12_way 6 = .ok (.iload_n 1, 1) := by decide +kernel
theorem dX12_way_7 : decode cX12_way 7 = .ok (.iload_n 2, 1) := by decide +kernel
theorem dX12_way_8 : decode cX12_way 8 = .ok (.invokevirtual 105, 3) := by decide +kernel
theorem dX12_way_11 : decode cX12_way 11 = .ok (.ifCond .eq 14, 3) := by decide +kernel
theorem dX12_way_14 : decode cX12_way 14 = .ok (.iload_n 3, 1) := by decide +kernel
theorem dX12_way_15 : decode cX12_way 15 = .ok (.ifCond .lt 10, 3) := by decide +kernel
theorem dX12_way_18 : decode cX12_way 18 = .ok (.iload_n 3, 1) := by decide +kernel
theorem dX12_way_19 : decode cX12_way 19 = .ok (.sipush 10000, 3) := by decide +kernel
theorem dX12_way_22 : decode cX12_way 22 = .ok (.if_icmp .le 9, 3) := by decide +kernel
theorem dX12_way_25 : decode cX12_way 25 = .ok (.aload_n 0, 1) := by decide +kernel
theorem dX12_way_26 : decode cX12_way 26 = .ok (.iconst 1, 1) := by decide +kernel
theorem dX12_way_27 : decode cX12_way 27 = .ok (.invokevirtual 98, 3) := by decide +kernel
theorem dX12_way_30 : decode cX12_way 30 = .ok (.ireturn, 1) := by decide +kernel
theorem dX12_way_31 : decode cX12_way 31 = .ok (.aload_n 0, 1) := by decide +kernel
theorem dX12_way_32 : decode cX12_way 32 = .ok (.invokevirtual 102, 3) := by decide +kernel
theorem dX12_way_35 : decode cX12_way 35 = .ok (.aload_n 0, 1) := by decide +kernel
theorem dX12_way_36 : decode cX12_way 36 = .ok (.getfield 16, 3) := by decide +kernel
theorem dX12_way_39 : decode cX12_way 39 = .ok (.bipush 12, 2) := by decide +kernel
theorem dX12_way_41 : decode cX12_way 41 = .ok (.iload_n 1, 1) := by decide +kernel
theorem dX12_way_42 : decode cX12_way 42 = .ok (.imul, 1) := by decide +kernel
theorem dX12_way_43 : decode cX12_way 43 = .ok (.iload_n 2, 1) := by decide +kernel
theorem dX12_way_44 : decode cX12_way 44 = .ok (.iadd, 1) := by decide +kernel
theorem dX12_way_45 : decode cX12_way 45 = .ok (.iaload, 1) := by decide +kernel
theorem dX12_way_46 : decode cX12_way 46 = .ok (.istore 4, 2) := by decide +kernel
theorem dX12_way_48 : decode cX12_way 48 = .ok (.aload_n 0, 1) := by decide +kernel
theorem dX12_way_49 : decode cX12_way 49 = .ok (.iload_n 1, 1) := by decide +kernel
theorem dX12_way_50 : decode cX12_way 50 = .ok (.iload_n 2, 1) := by decide +kernel
theorem dX12_way_51 : decode cX12_way 51 = .ok (.iload_n 3, 1) := by decide +kernel
theorem dX12_way_52 : decode cX12_way 52 = .ok (.invokevirtual 109, 3) := by decide +kernel
theorem dX12_way_55 : decode cX12_way 55 = .ok (.iload 4, 2) := by decide +kernel
theorem dX12_way_57 : decode cX12_way 57 = .ok (.ireturn, 1) := by decide +kernel
theorem dX12_sheet_0 : decode cX12_sheet 0 = .ok (.aload_n 0, 1) := by decide +kernel
theorem dX12_sheet_1 : decode cX12_sheet 1 = .ok (.iconst 0, 1) := by decide +kernel
theorem dX12_sheet_2 : decode cX12_sheet 2 = .ok (.putfield 77, 3) := by decide +kernel
theorem dX12_sheet_5 : decode cX12_sheet 5 = .ok (.iload_n 1, 1) := by decide +kernel
theorem dX12_sheet_6 : decode cX12_sheet 6 = .ok (.ifCond .lt 19, 3) := by decide +kernel
theorem dX12_sheet_9 : decode cX12_sheet 9 = .ok (.iload_n 1, 1) := by decide +kernel
theorem dX12_sheet_10 : decode cX12_sheet 10 = .ok (.iconst 4, 1) := by decide +kernel
theorem dX12_sheet_11 : decode cX12_sheet 11 = .ok (.if_icmp .gt 14, 3) := by decide +kernel
theorem dX12_sheet_14 : decode cX12_sheet 14 = .ok (.iload_n 1, 1) := by decide +kernel
theorem dX12_sheet_15 : decode cX12_sheet 15 = .ok (.iconst 4, 1) := by decide +kernel
theorem dX12_sheet_16 : decode cX12_sheet 16 = .ok (.if_icmp .ge 15, 3) := by decide +kernel
theorem dX12_sheet_19 : decode cX12_sheet 19 = .ok (.iload_n 2, 1) := by decide +kernel
theorem dX12_sheet_20 : decode cX12_sheet 20 = .ok (.bipush 8, 2) := by decide +kernel
theorem dX12_sheet_22 : decode cX12_sheet 22 = .ok (.if_icmp .le 9, 3) := by decide +kernel
theorem dX12_sheet_25 : decode cX12_sheet 25 = .ok (.aload_n 0, 1) := by decide +kernel
theorem dX12_sheet_26 : decode cX12_sheet 26 = .ok (.iconst 1, 1) := by decide +kernel
theorem dX12_sheet_27 : decode cX12_sheet 27 = .ok (.invokevirtual 98, 3) := by decide +kernel
theorem dX12_sheet_30 : decode cX12_sheet 30 = .ok (.ireturn, 1) := by decide +kernel
theorem dX12_sheet_31 : decode cX12_sheet 31 = .ok (.iload_n 1, 1) := by decide +kernel
theorem dX12_sheet_32 : decode cX12_sheet 32 = .ok (.iconst 4, 1) := by decide +kernel
theorem dX12_sheet_33 : decode cX12_sheet 33 = .ok (.if_icmp .ge 13, 3) := by decide +kernel
theorem dX12_sheet_36 : decode cX12_sheet 36 = .ok (.iload_n 2, 1) := by decide +kernel
theorem dX12_sheet_37 : decode cX12_sheet 37 = .ok (.ifCond .ge 9, 3) := by decide +kernel
theorem dX12_sheet_40 : decode cX12_sheet 40 = .ok (.aload_n 0, 1) := by decide +kernel
theorem dX12_sheet_41 : decode cX12_sheet 41 = .ok (.iconst 4, 1) := by decide +kernel
theorem dX12_sheet_42 : decode cX12_sheet 42 = .ok (.invokevirtual 98, 3) := by decide +kernel
theorem dX12_sheet_45 : decode cX12_sheet 45 = .ok (.ireturn, 1) := by decide +kernel
theorem dX12_sheet_46 : decode cX12_sheet 46 = .ok (.aload_n 0, 1) := by decide +kernel
theorem dX12_sheet_47 : decode cX12_sheet 47 = .ok (.iload_n 1, 1) := by decide +kernel
theorem dX12_sheet_48 : decode cX12_sheet 48 = .ok (.putfield 29, 3) := by decide +kernel
theorem dX12_sheet_51 : decode cX12_sheet 51 = .ok (.aload_n 0, 1) := by decide +kernel
theorem dX12_sheet_52 : decode cX12_sheet 52 = .ok (.iload_n 1, 1) := by decide +kernel
theorem dX12_sheet_53 : decode cX12_sheet 53 = .ok (.iconst 4, 1) := by decide +kernel
theorem dX12_sheet_54 : decode cX12_sheet 54 = .ok (.if_icmp .ne 7, 3) := by decide +kernel
theorem dX12_sheet_57 : decode cX12_sheet 57 = .ok (.iconst 0, 1) := by decide +kernel
theorem dX12_sheet_58 : decode cX12_sheet 58 = .ok (.goto 4, 3) := by decide +kernel
theorem dX12_sheet_61 : decode cX12_sheet 61 = .ok (.iload_n 2, 1) := by decide +kernel
theorem dX12_sheet_62 : decode cX12_sheet 62 = .ok (.putfield 113, 3) := by decide +kernel
theorem dX12_sheet_65 : decode cX12_sheet 65 = .ok (.iconst 0, 1) := by decide +kernel
theorem dX12_sheet_66 : decode cX12_sheet 66 = .ok (.istore_n 3, 1) := by decide +kernel
theorem dX12_sheet_67 : decode cX12_sheet 67 = .ok (.iload_n 3, 1) := by decide +kernel
theorem dX12_sheet_68 : decode cX12_sheet 68 = .ok (.bipush 8, 2) := by decide +kernel
theorem dX12_sheet_70 : decode cX12_sheet 70 = .ok (.if_icmp .ge 16, 3) := by decide +kernel
theorem dX12_sheet_73 : decode cX12_sheet 73 = .ok (.aload_n 0, 1) := by decide +kernel
theorem dX12_sheet_74 : decode cX12_sheet 74 = .ok (.getfield 33, 3) := by decide +kernel
theorem dX12_sheet_77 : decode cX12_sheet 77 = .ok (.iload_n 3, 1) := by decide +kernel
theorem dX12_sheet_78 : decode cX12_sheet 78 = .ok (.lconst 0, 1) := by decide +kernel
theorem dX12_sheet_79 : decode cX12_sheet 79 = .ok (.lastore, 1) := by decide +kernel
theorem dX12_sheet_80 : decode cX12_sheet 80 = .ok (.iinc 3 1, 3) := by decide +kernel
theorem dX12_sheet_83 : decode cX12_sheet 83 = .ok (.goto (-16), 3) := by decide +kernel
theorem dX12_sheet_86 : decode cX12_sheet 86 = .ok (.aload_n 0, 1) := by decide +kernel
theorem dX12_sheet_87 : decode cX12_sheet 87 = .ok (.getfield 113, 3) := by decide +kernel
theorem dX12_sheet_90 : decode cX12_sheet 90 = .ok (.ireturn, 1) := by decide +kernel
theorem dX12_entry_0 : decode cX12_entry 0 = .ok (.aload_n 0, 1) := by decide +kernel
theorem dX12_entry_1 : decode cX12_entry 1 = .ok (.iconst 0, 1) := by decide +kernel
theorem dX12_entry_2 : decode cX12_entry 2 = .ok (.putfield 77, 3) := by decide +kernel
theorem dX12_entry_5 : decode cX12_entry 5 = .ok (.aload_n 0, 1) := by decide +kernel
theorem dX12_entry_6 : decode cX12_entry 6 = .ok (.getfield 29, 3) := by decide +kernel
theorem dX12_entry_9 : decode cX12_entry 9 = .ok (.iconst (-1), 1) := by decide +kernel
theorem dX12_entry_10 : decode cX12_entry 10 = .ok (.if_icmp .eq 11, 3) := by decide +kernel
theorem dX12_entry_13 : decode cX12_entry 13 = .ok (.aload_n 0, 1) := by decide +kernel
theorem dX12_entry_14 : decode cX12_entry 14 = .ok (.getfield 29, 3) := by decide +kernel
theorem dX12_entry_17 : decode cX12_entry 17 = .ok (.iconst 4, 1) := by decide +kernel
theorem dX12_entry_18 : decode cX12_entry 18 = .ok (.if_icmp .ne 11, 3) := by decide +kernel
theorem dX12_entry_21 : decode cX12_entry 21 = .ok (.aload_n 0, 1) := by decide +kernel
theorem dX12_entry_22 : decode cX12_entry 22 = .ok (.iconst 2, 1) := by decide +kernel
theorem dX12_entry_23 : decode cX12_entry 23 = .ok (.invokevirtual 98, 3) := by decide +kernel
theorem dX12_entry_26 : decode cX12_entry 26 = .ok (.pop, 1) := by decide +kernel
theorem dX12_entry_27 : decode cX12_entry 27 = .ok (.iconst 0, 1) := by decide +kernel
theorem dX12_entry_28 : decode cX12_entry 28 = .ok (.ireturn, 1) := by decide +kernel
theorem dX12_entry_29 : decode cX12_entry 29 = .ok (.iload_n 1, 1) := by decide +kernel
theorem dX12_entry_30 : decode cX12_entry 30 = .ok (.ifCond .lt 11, 3) := by decide +kernel
theorem dX12_entry_33 : decode cX12_entry 33 = .ok (.iload_n 1, 1) := by decide +kernel
theorem dX12_entry_34 : decode cX12_entry 34 = .ok (.aload_n 0, 1) := by decide +kernel
theorem dX12_entry_35 : decode cX12_entry 35 = .ok (.getfield 113, 3) := by decide +kernel
theorem dX12_entry_38 : decode cX12_entry 38 = .ok (.if_icmp .lt 11, 3) := by decide +kernel
theorem dX12_entry_41 : decode cX12_entry 41 = .ok (.aload_n 0, 1) := by decide +kernel
theorem dX12_entry_42 : decode cX12_entry 42 = .ok (.iconst 1, 1) := by decide +kernel
theorem dX12_entry_43 : decode cX12_entry 43 = .ok (.invokevirtual 98, 3) := by decide +kernel
theorem dX12_entry_46 : decode cX12_entry 46 = .ok (.pop, 1) := by decide +kernel
theorem dX12_entry_47 : decode cX12_entry 47 = .ok (.iconst 0, 1) := by decide +kernel
theorem dX12_entry_48 : decode cX12_entry 48 = .ok (.ireturn, 1) := by decide +kernel
theorem dX12_entry_49 : decode cX12_entry 49 = .ok (.bipush 64, 2) := by decide +kernel
theorem dX12_entry_51 : decode cX12_entry 51 = .ok (.bipush 8, 2) := by decide +kernel
theorem dX12_entry_53 : decode cX12_entry 53 = .ok (.aload_n 0, 1) := by decide +kernel
theorem dX12_entry_54 : decode cX12_entry 54 = .ok (.getfield 29, 3) := by decide +kernel
theorem dX12_entry_57 : decode cX12_entry 57 = .ok (.ishl, 1) := by decide +kernel
theorem dX12_entry_58 : decode cX12_entry 58 = .ok (.isub, 1) := by decide +kernel
theorem dX12_entry_59 : decode cX12_entry 59 = .ok (.istore 4, 2) := by decide +kernel
theorem dX12_entry_61 : decode cX12_entry 61 = .ok (.aload_n 0, 1) := by decide +kernel
theorem dX12_entry_62 : decode cX12_entry 62 = .ok (.getfield 33, 3) := by decide +kernel
theorem dX12_entry_65 : decode cX12_entry 65 = .ok (.iload_n 1, 1) := by decide +kernel
theorem dX12_entry_66 : decode cX12_entry 66 = .ok (.lload_n 2, 1) := by decide +kernel
theorem dX12_entry_67 : decode cX12_entry 67 = .ok (.iload 4, 2) := by decide +kernel
theorem dX12_entry_69 : decode cX12_entry 69 = .ok (.lshl, 1) := by decide +kernel
theorem dX12_entry_70 : decode cX12_entry 70 = .ok (.iload 4, 2) := by decide +kernel
theorem dX12_entry_72 : decode cX12_entry 72 = .ok (.lshr, 1) := by decide +kernel
theorem dX12_entry_73 : decode cX12_entry 73 = .ok (.lastore, 1) := by decide +kernel
theorem dX12_entry_74 : decode cX12_entry 74 = .ok (.iconst 1, 1) := by decide +kernel
theorem dX12_entry_75 : decode cX12_entry 75 = .ok (.ireturn, 1) := by decide +kernel
theorem dX12_lay_0 : decode cX12_lay 0 = .ok (.aload_n 0, 1) := by decide +kernel
theorem dX12_lay_1 : decode cX12_lay 1 = .ok (.iconst 0, 1) := by decide +kernel
theorem dX12_lay_2 : decode cX12_lay 2 = .ok (.putfield 77, 3) := by decide +kernel
theorem dX12_lay_5 : decode cX12_lay 5 = .ok (.aload_n 0, 1) := by decide +kernel
theorem dX12_lay_6 : decode cX12_lay 6 = .ok (.iload_n 1, 1) := by decide +kernel
theorem dX12_lay_7 : decode cX12_lay 7 = .ok (.invokevirtual 94, 3) := by decide +kernel
theorem dX12_lay_10 : decode cX12_lay 10 = .ok (.istore_n 2, 1) := by decide +kernel
theorem dX12_lay_11 : decode cX12_lay 11 = .ok (.iconst 0, 1) := by decide +kernel
theorem dX12_lay_12 : decode cX12_lay 12 = .ok (.istore_n 3, 1) := by decide +kernel
theorem dX12_lay_13 : decode cX12_lay 13 = .ok (.iload_n 3, 1) := by decide +kernel
theorem dX12_lay_14 : decode cX12_lay 14 = .ok (.iconst 4, 1) := by decide +kernel
theorem dX12_lay_15 : decode cX12_lay 15 = .ok (.if_icmp .ge 53, 3) := by decide +kernel
theorem dX12_lay_18 : decode cX12_lay 18 = .ok (.aload_n 0, 1) := by decide +kernel
theorem dX12_lay_19 : decode cX12_lay 19 = .ok (.getfield 29, 3) := by decide +kernel
theorem dX12_lay_22 : decode cX12_lay 22 = .ok (.iconst (-1), 1) := by decide +kernel
theorem dX12_lay_23 : decode cX12_lay 23 = .ok (.if_icmp .eq 45, 3) := by decide +kernel
theorem dX12_lay_26 : decode cX12_lay 26 = .ok (.iload_n 2, 1) := by decide +kernel
theorem dX12_lay_27 : decode cX12_lay 27 = .ok (.ifCond .eq 33, 3) := by decide +kernel
theorem dX12_lay_30 : decode cX12_lay 30 = .ok (.aload_n 0, 1) := by decide +kernel
theorem dX12_lay_31 : decode cX12_lay 31 = .ok (.getfield 33, 3) := by decide +kernel
theorem dX12_lay_34 : decode cX12_lay 34 = .ok (.iload_n 3, 1) := by decide +kernel
theorem dX12_lay_35 : decode cX12_lay 35 = .ok (.laload, 1) := by decide +kernel
theorem dX12_lay_36 : decode cX12_lay 36 = .ok (.ldc2_w 116, 3) := by decide +kernel
theorem dX12_lay_39 : decode cX12_lay 39 = .ok (.lcmp, 1) := by decide +kernel
theorem dX12_lay_40 : decode cX12_lay 40 = .ok (.ifCond .lt 20, 3) := by decide +kernel
theorem dX12_lay_43 : decode cX12_lay 43 = .ok (.aload_n 0, 1) := by decide +kernel
theorem dX12_lay_44 : decode cX12_lay 44 = .ok (.getfield 33, 3) := by decide +kernel
theorem dX12_lay_47 : decode cX12_lay 47 = .ok (.iload_n 3, 1) := by decide +kernel
theorem dX12_lay_48 : decode cX12_lay 48 = .ok (.laload, 1) := by decide +kernel
theorem dX12_lay_49 : decode cX12_lay 49 = .ok (.ldc2_w 118, 3) := by decide +kernel
theorem dX12_lay_52 : decode cX12_lay 52 = .ok (.lcmp, 1) := by decide +kernel
theorem dX12_lay_53 : decode cX12_lay 53 = .ok (.ifCond .gt 7, 3) := by decide +kernel
theorem dX12_lay_56 : decode cX12_lay 56 = .ok (.iconst 1, 1) := by decide +kernel
theorem dX12_lay_57 : decode cX12_lay 57 = .ok (.goto 4, 3) := by decide +kernel
theorem dX12_lay_60 : decode cX12_lay 60 = .ok (.iconst 0, 1) := by decide +kernel
theorem dX12_lay_61 : decode cX12_lay 61 = .ok (.istore_n 2, 1) := by decide +kernel
theorem dX12_lay_62 : decode cX12_lay 62 = .ok (.iinc 3 1, 3) := by decide +kernel
theorem dX12_lay_65 : decode cX12_lay 65 = .ok (.goto (-52), 3) := by decide +kernel
theorem dX12_lay_68 : decode cX12_lay 68 = .ok (.iload_n 2, 1) := by decide +kernel
theorem dX12_lay_69 : decode cX12_lay 69 = .ok (.ifCond .eq 11, 3) := by decide +kernel
theorem dX12_lay_72 : decode cX12_lay 72 = .ok (.aload_n 0, 1) := by decide +kernel
theorem dX12_lay_73 : decode cX12_lay 73 = .ok (.getfield 29, 3) := by decide +kernel
theorem dX12_lay_76 : decode cX12_lay 76 = .ok (.iconst (-1), 1) := by decide +kernel
theorem dX12_lay_77 : decode cX12_lay 77 = .ok (.if_icmp .ne 19, 3) := by decide +kernel
theorem dX12_lay_80 : decode cX12_lay 80 = .ok (.aload_n 0, 1) := by decide +kernel
theorem dX12_lay_81 : decode cX12_lay 81 = .ok (.iload_n 2, 1) := by decide +kernel
theorem dX12_lay_82 : decode cX12_lay 82 = .ok (.ifCond .eq 7, 3) := by decide +kernel
theorem dX12_lay_85 : decode cX12_lay 85 = .ok (.iconst 2, 1) := by decide +kernel
theorem dX12_lay_86 : decode cX12_lay 86 = .ok (.goto 4, 3) := by decide +kernel
theorem dX12_lay_89 : decode cX12_lay 89 = .ok (.iconst 1, 1) := by decide +kernel
theorem dX12_lay_90 : decode cX12_lay 90 = .ok (.invokevirtual 98, 3) := by decide +kernel
theorem dX12_lay_93 : decode cX12_lay 93 = .ok (.pop, 1) := by decide +kernel
theorem dX12_lay_94 : decode cX12_lay 94 = .ok (.iconst 0, 1) := by decide +kernel
theorem dX12_lay_95 : decode cX12_lay 95 = .ok (.ireturn, 1) := by decide +kernel
theorem dX12_lay_96 : decode cX12_lay 96 = .ok (.aload_n 0, 1) := by decide +kernel
theorem dX12_lay_97 : decode cX12_lay 97 = .ok (.invokevirtual 102, 3) := by decide +kernel
theorem dX12_lay_100 : decode cX12_lay 100 = .ok (.iconst 0, 1) := by decide +kernel
theorem dX12_lay_101 : decode cX12_lay 101 = .ok (.istore_n 3, 1) := by decide +kernel
theorem dX12_lay_102 : decode cX12_lay 102 = .ok (.iload_n 3, 1) := by decide +kernel
theorem dX12_lay_103 : decode cX12_lay 103 = .ok (.iconst 4, 1) := by decide +kernel
theorem dX12_lay_104 : decode cX12_lay 104 = .ok (.if_icmp .ge 26, 3) := by decide +kernel
theorem dX12_lay_107 : decode cX12_lay 107 = .ok (.aload_n 0, 1) := by decide +kernel
theorem dX12_lay_108 : decode cX12_lay 108 = .ok (.getfield 13, 3) := by decide +kernel
theorem dX12_lay_111 : decode cX12_lay 111 = .ok (.iconst 4, 1) := by decide +kernel
theorem dX12_lay_112 : decode cX12_lay 112 = .ok (.iload_n 1, 1) := by decide +kernel
theorem dX12_lay_113 : decode cX12_lay 113 = .ok (.imul, 1) := by decide +kernel
theorem dX12_lay_114 : decode cX12_lay 114 = .ok (.iload_n 3, 1) := by decide +kernel
theorem dX12_lay_115 : decode cX12_lay 115 = .ok (.iadd, 1) := by decide +kernel
theorem dX12_lay_116 : decode cX12_lay 116 = .ok (.aload_n 0, 1) := by decide +kernel
theorem dX12_lay_117 : decode cX12_lay 117 = .ok (.getfield 33, 3) := by decide +kernel
theorem dX12_lay_120 : decode cX12_lay 120 = .ok (.iload_n 3, 1) := by decide +kernel
theorem dX12_lay_121 : decode cX12_lay 121 = .ok (.laload, 1) := by decide +kernel
theorem dX12_lay_122 : decode cX12_lay 122 = .ok (.l2i, 1) := by decide +kernel
theorem dX12_lay_123 : decode cX12_lay 123 = .ok (.iastore, 1) := by decide +kernel
theorem dX12_lay_124 : decode cX12_lay 124 = .ok (.iinc 3 1, 3) := by decide +kernel
theorem dX12_lay_127 : decode cX12_lay 127 = .ok (.goto (-25), 3) := by decide +kernel
theorem dX12_lay_130 : decode cX12_lay 130 = .ok (.aload_n 0, 1) := by decide +kernel
theorem dX12_lay_131 : decode cX12_lay 131 = .ok (.iconst (-1), 1) := by decide +kernel
theorem dX12_lay_132 : decode cX12_lay 132 = .ok (.putfield 29, 3) := by decide +kernel
theorem dX12_lay_135 : decode cX12_lay 135 = .ok (.iconst 1, 1) := by decide +kernel
theorem dX12_lay_136 : decode cX12_lay 136 = .ok (.ireturn, 1) := by decide +kernel
theorem dX12_measure_0 : decode cX12_measure 0 = .ok (.aload_n 0, 1) := by decide +kernel
theorem dX12_measure_1 : decode cX12_measure 1 = .ok (.iconst 0, 1) := by decide +kernel
theorem dX12_measure_2 : decode cX12_measure 2 = .ok (.putfield 77, 3) := by decide +kernel
theorem dX12_measure_5 : decode cX12_measure 5 = .ok (.iload_n 1, 1) := by decide +kernel
theorem dX12_measure_6 : decode cX12_measure 6 = .ok (.ifCond .lt 8, 3) := by decide +kernel
theorem dX12_measure_9 : decode cX12_measure 9 = .ok (.iload_n 1, 1) := by decide +kernel
theorem dX12_measure_10 : decode cX12_measure 10 = .ok (.iconst 2, 1) := by decide +kernel
theorem dX12_measure_11 : decode cX12_measure 11 = .ok (.if_icmp .le 9, 3) := by decide +kernel
theorem dX12_measure_14 : decode cX12_measure 14 = .ok (.aload_n 0, 1) := by decide +kernel
theorem dX12_measure_15 : decode cX12_measure 15 = .ok (.iconst 1, 1) := by decide +kernel
theorem dX12_measure_16 : decode cX12_measure 16 = .ok (.invokevirtual 98, 3) := by decide +kernel
theorem dX12_measure_19 : decode cX12_measure 19 = .ok (.ireturn, 1) := by decide +kernel
theorem dX12_measure_20 : decode cX12_measure 20 = .ok (.aload_n 0, 1) := by decide +kernel
theorem dX12_measure_21 : decode cX12_measure 21 = .ok (.invokevirtual 102, 3) := by decide +kernel
theorem dX12_measure_24 : decode cX12_measure 24 = .ok (.iconst 0, 1) := by decide +kernel
theorem dX12_measure_25 : decode cX12_measure 25 = .ok (.istore_n 2, 1) := by decide +kernel
theorem dX12_measure_26 : decode cX12_measure 26 = .ok (.iconst 0, 1) := by decide +kernel
theorem dX12_measure_27 : decode cX12_measure 27 = .ok (.istore_n 3, 1) := by decide +kernel
theorem dX12_measure_28 : decode cX12_measure 28 = .ok (.iload_n 3, 1) := by decide +kernel
theorem dX12_measure_29 : decode cX12_measure 29 = .ok (.aload_n 0, 1) := by decide +kernel
theorem dX12_measure_30 : decode cX12_measure 30 = .ok (.invokevirtual 90, 3) := by decide +kernel
theorem dX12_measure_33 : decode cX12_measure 33 = .ok (.if_icmp .ge 147, 3) := by decide +kernel
theorem dX12_measure_36 : decode cX12_measure 36 = .ok (.iload_n 3, 1) := by decide +kernel
theorem dX12_measure_37 : decode cX12_measure 37 = .ok (.iconst 1, 1) := by decide +kernel
theorem dX12_measure_38 : decode cX12_measure 38 = .ok (.iadd, 1) := by decide +kernel
theorem dX12_measure_39 : decode cX12_measure 39 = .ok (.istore 4, 2) := by decide +kernel
theorem dX12_measure_41 : decode cX12_measure 41 = .ok (.iload 4, 2) := by decide +kernel
theorem dX12_measure_43 : decode cX12_measure 43 = .ok (.aload_n 0, 1) := by decide +kernel
theorem dX12_measure_44 : decode cX12_measure 44 = .ok (.invokevirtual 90, 3) := by decide +kernel
theorem dX12_measure_47 : decode cX12_measure 47 = .ok (.if_icmp .ge 127, 3) := by decide +kernel
theorem dX12_measure_50 : decode cX12_measure 50 = .ok (.iconst 0, 1) := by decide +kernel
theorem dX12_measure_51 : decode cX12_measure 51 = .ok (.istore 5, 2) := by decide +kernel
theorem dX12_measure_53 : decode cX12_measure 53 = .ok (.iconst 0, 1) := by decide +kernel
theorem dX12_measure_54 : decode cX12_measure 54 = .ok (.istore 6, 2) := by decide +kernel
theorem dX12_measure_56 : decode cX12_measure 56 = .ok (.iload 6, 2) := by decide +kernel
theorem dX12_measure_58 : decode cX12_measure 58 = .ok (.iconst 4, 1) := by decide +kernel
theorem dX12_measure_59 : decode cX12_measure 59 = .ok (.if_icmp .ge 75, 3) := by decide +kernel
theorem dX12_measure_62 : decode cX12_measure 62 = .ok (.aload_n 0, 1) := by decide +kernel
theorem dX12_measure_63 : decode cX12_measure 63 = .ok (.getfield 13, 3) := by decide +kernel
theorem dX12_measure_66 : decode cX12_measure 66 = .ok (.iconst 4, 1) := by decide +kernel
theorem dX12_measure_67 : decode cX12_measure 67 = .ok (.iload_n 3, 1) := by decide +kernel
theorem dX12_measure_68 : decode cX12_measure 68 = .ok (.imul, 1) := by decide +kernel
theorem dX12_measure_69 : decode cX12_measure 69 = .ok (.iload 6, 2) := by decide +kernel
theorem dX12_measure_71 : decode cX12_measure 71 = .ok (.iadd, 1) := by decide +kernel
theorem dX12_measure_72 : decode cX12_measure 72 = .ok (.iaload, 1) := by decide +kernel
theorem dX12_measure_73 : decode cX12_measure 73 = .ok (.aload_n 0, 1) := by decide +kernel
theorem dX12_measure_74 : decode cX12_measure 74 = .ok (.getfield 13, 3) := by decide +kernel
theorem dX12_measure_77 : decode cX12_measure 77 = .ok (.iconst 4, 1) := by decide +kernel
theorem dX12_measure_78 : decode cX12_measure 78 = .ok (.iload 4, 2) := by decide +kernel
theorem dX12_measure_80 : decode cX12_measure 80 = .ok (.imul, 1) := by decide +kernel
theorem dX12_measure_81 : decode cX12_measure 81 = .ok (.iload 6, 2) := by decide +kernel
theorem dX12_measure_83 : decode cX12_measure 83 = .ok (.iadd, 1) := by decide +kernel
theorem dX12_measure_84 : decode cX12_measure 84 = .ok (.iaload, 1) := by decide +kernel
theorem dX12_measure_85 : decode cX12_measure 85 = .ok (.isub, 1) := by decide +kernel
theorem dX12_measure_86 : decode cX12_measure 86 = .ok (.invokestatic 120, 3) := by decide +kernel
theorem dX12_measure_89 : decode cX12_measure 89 = .ok (.istore 7, 2) := by decide +kernel
theorem dX12_measure_91 : decode cX12_measure 91 = .ok (.iload_n 1, 1) := by decide +kernel
theorem dX12_measure_92 : decode cX12_measure 92 = .ok (.ifCond .ne 11, 3) := by decide +kernel
theorem dX12_measure_95 : decode cX12_measure 95 = .ok (.iload 5, 2) := by decide +kernel
theorem dX12_measure_97 : decode cX12_measure 97 = .ok (.iload 7, 2) := by decide +kernel
theorem dX12_measure_99 : decode cX12_measure 99 = .ok (.iadd, 1) := by decide +kernel
theorem dX12_measure_100 : decode cX12_measure 100 = .ok (.goto 26, 3) := by decide +kernel
theorem dX12_measure_103 : decode cX12_measure 103 = .ok (.iload_n 1, 1) := by decide +kernel
theorem dX12_measure_104 : decode cX12_measure 104 = .ok (.iconst 1, 1) := by decide +kernel
theorem dX12_measure_105 : decode cX12_measure 105 = .ok (.if_icmp .ne 13, 3) := by decide +kernel
theorem dX12_measure_108 : decode cX12_measure 108 = .ok (.iload 5, 2) := by decide +kernel
theorem dX12_measure_110 : decode cX12_measure 110 = .ok (.iload 7, 2) := by decide +kernel
theorem dX12_measure_112 : decode cX12_measure 112 = .ok (.invokestatic 125, 3) := by decide +kernel
theorem dX12_measure_115 : decode cX12_measure 115 = .ok (.goto 11, 3) := by decide +kernel
theorem dX12_measure_118 : decode cX12_measure 118 = .ok (.iload 5, 2) := by decide +kernel
theorem dX12_measure_120 : decode cX12_measure 120 = .ok (.iload 7, 2) := by decide +kernel
theorem dX12_measure_122 : decode cX12_measure 122 = .ok (.iload 7, 2) := by decide +kernel
theorem dX12_measure_124 : decode cX12_measure 124 = .ok (.imul, 1) := by decide +kernel
theorem dX12_measure_125 : decode cX12_measure 125 = .ok (.iadd, 1) := by decide +kernel
theorem dX12_measure_126 : decode cX12_measure 126 = .ok (.istore 5, 2) := by decide +kernel
theorem dX12_measure_128 : decode cX12_measure 128 = .ok (.iinc 6 1, 3) := by decide +kernel
theorem dX12_measure_131 : decode cX12_measure 131 = .ok (.goto (-75), 3) := by decide +kernel
theorem dX12_measure_134 : decode cX12_measure 134 = .ok (.iload 5, 2) := by decide +kernel
theorem dX12_measure_136 : decode cX12_measure 136 = .ok (.sipush 10000, 3) := by decide +kernel
theorem dX12_measure_139 : decode cX12_measure 139 = .ok (.if_icmp .le 6, 3) := by decide +kernel
theorem dX12_measure_142 : decode cX12_measure 142 = .ok (.iinc 2 1, 3) := by decide +kernel
theorem dX12_measure_145 : decode cX12_measure 145 = .ok (.aload_n 0, 1) := by decide +kernel
theorem dX12_measure_146 : decode cX12_measure 146 = .ok (.iload_n 3, 1) := by decide +kernel
theorem dX12_measure_147 : decode cX12_measure 147 = .ok (.iload 4, 2) := by decide +kernel
theorem dX12_measure_149 : decode cX12_measure 149 = .ok (.iload 5, 2) := by decide +kernel
theorem dX12_measure_151 : decode cX12_measure 151 = .ok (.sipush 10000, 3) := by decide +kernel
theorem dX12_measure_154 : decode cX12_measure 154 = .ok (.if_icmp .le 9, 3) := by decide +kernel
theorem dX12_measure_157 : decode cX12_measure 157 = .ok (.sipush 10000, 3) := by decide +kernel
theorem dX12_measure_160 : decode cX12_measure 160 = .ok (.goto 5, 3) := by decide +kernel
theorem dX12_measure_163 : decode cX12_measure 163 = .ok (.iload 5, 2) := by decide +kernel
theorem dX12_measure_165 : decode cX12_measure 165 = .ok (.invokevirtual 109, 3) := by decide +kernel
theorem dX12_measure_168 : decode cX12_measure 168 = .ok (.iinc 4 1, 3) := by decide +kernel
theorem dX12_measure_171 : decode cX12_measure 171 = .ok (.goto (-130), 3) := by decide +kernel
theorem dX12_measure_174 : decode cX12_measure 174 = .ok (.iinc 3 1, 3) := by decide +kernel
theorem dX12_measure_177 : decode cX12_measure 177 = .ok (.goto (-149), 3) := by decide +kernel
theorem dX12_measure_180 : decode cX12_measure 180 = .ok (.iload_n 2, 1) := by decide +kernel
theorem dX12_measure_181 : decode cX12_measure 181 = .ok (.ireturn, 1) := by decide +kernel
theorem dX12_quarrel_0 : decode cX12_quarrel 0 = .ok (.aload_n 0, 1) := by decide +kernel
theorem dX12_quarrel_1 : decode cX12_quarrel 1 = .ok (.iconst 0, 1) := by decide +kernel
theorem dX12_quarrel_2 : decode cX12_quarrel 2 = .ok (.putfield 77, 3) := by decide +kernel
theorem dX12_quarrel_5 : decode cX12_quarrel 5 = .ok (.aload_n 0, 1) := by decide +kernel
theorem dX12_quarrel_6 : decode cX12_quarrel 6 = .ok (.iload_n 1, 1) := by decide +kernel
theorem dX12_quarrel_7 : decode cX12_quarrel 7 = .ok (.iload_n 2, 1) := by decide +kernel
theorem dX12_quarrel_8 : decode cX12_quarrel 8 = .ok (.invokevirtual 105, 3) := by decide +kernel
theorem dX12_quarrel_11 : decode cX12_quarrel 11 = .ok (.ifCond .eq 14, 3) := by decide +kernel
theorem dX12_quarrel_14 : decode cX12_quarrel 14 = .ok (.iload_n 3, 1) := by decide +kernel
theorem dX12_quarrel_15 : decode cX12_quarrel 15 = .ok (.ifCond .lt 10, 3) := by decide +kernel
theorem dX12_quarrel_18 : decode cX12_quarrel 18 = .ok (.iload_n 3, 1) := by decide +kernel
theorem dX12_quarrel_19 : decode cX12_quarrel 19 = .ok (.sipush 1000, 3) := by decide +kernel
theorem dX12_quarrel_22 : decode cX12_quarrel 22 = .ok (.if_icmp .le 11, 3) := by decide +kernel
theorem dX12_quarrel_25 : decode cX12_quarrel 25 = .ok (.aload_n 0, 1) := by decide +kernel
theorem dX12_quarrel_26 : decode cX12_quarrel 26 = .ok (.iconst 1, 1) := by decide +kernel
theorem dX12_quarrel_27 : decode cX12_quarrel 27 = .ok (.invokevirtual 98, 3) := by decide +kernel
theorem dX12_quarrel_30 : decode cX12_quarrel 30 = .ok (.pop, 1) := by decide +kernel
theorem dX12_quarrel_31 : decode cX12_quarrel 31 = .ok (.iconst 0, 1) := by decide +kernel
theorem dX12_quarrel_32 : decode cX12_quarrel 32 = .ok (.ireturn, 1) := by decide +kernel
theorem dX12_quarrel_33 : decode cX12_quarrel 33 = .ok (.aload_n 0, 1) := by decide +kernel
theorem dX12_quarrel_34 : decode cX12_quarrel 34 = .ok (.invokevirtual 102, 3) := by decide +kernel
theorem dX12_quarrel_37 : decode cX12_quarrel 37 = .ok (.aload_n 0, 1) := by decide +kernel
theorem dX12_quarrel_38 : decode cX12_quarrel 38 = .ok (.getfield 19, 3) := by decide +kernel
theorem dX12_quarrel_41 : decode cX12_quarrel 41 = .ok (.bipush 12, 2) := by decide +kernel
theorem dX12_quarrel_43 : decode cX12_quarrel 43 = .ok (.iload_n 1, 1) := by decide +kernel
theorem dX12_quarrel_44 : decode cX12_quarrel 44 = .ok (.imul, 1) := by decide +kernel
theorem dX12_quarrel_45 : decode cX12_quarrel 45 = .ok (.iload_n 2, 1) := by decide +kernel
theorem dX12_quarrel_46 : decode cX12_quarrel 46 = .ok (.iadd, 1) := by decide +kernel
theorem dX12_quarrel_47 : decode cX12_quarrel 47 = .ok (.iload_n 3, 1) := by decide +kernel
theorem dX12_quarrel_48 : decode cX12_quarrel 48 = .ok (.iastore, 1) := by decide +kernel
theorem dX12_quarrel_49 : decode cX12_quarrel 49 = .ok (.aload_n 0, 1) := by decide +kernel
theorem dX12_quarrel_50 : decode cX12_quarrel 50 = .ok (.getfield 19, 3) := by decide +kernel
theorem dX12_quarrel_53 : decode cX12_quarrel 53 = .ok (.bipush 12, 2) := by decide +kernel
theorem dX12_quarrel_55 : decode cX12_quarrel 55 = .ok (.iload_n 2, 1) := by decide +kernel
theorem dX12_quarrel_56 : decode cX12_quarrel 56 = .ok (.imul, 1) := by decide +kernel
theorem dX12_quarrel_57 : decode cX12_quarrel 57 = .ok (.iload_n 1, 1) := by decide +kernel
theorem dX12_quarrel_58 : decode cX12_quarrel 58 = .ok (.iadd, 1) := by decide +kernel
theorem dX12_quarrel_59 : decode cX12_quarrel 59 = .ok (.iload_n 3, 1) := by decide +kernel
theorem dX12_quarrel_60 : decode cX12_quarrel 60 = .ok (.iastore, 1) := by decide +kernel
theorem dX12_quarrel_61 : decode cX12_quarrel 61 = .ok (.aload_n 0, 1) := by decide +kernel
theorem dX12_quarrel_62 : decode cX12_quarrel 62 = .ok (.getfield 22, 3) := by decide +kernel
theorem dX12_quarrel_65 : decode cX12_quarrel 65 = .ok (.bipush 12, 2) := by decide +kernel
theorem dX12_quarrel_67 : decode cX12_quarrel 67 = .ok (.iload_n 1, 1) := by decide +kernel
theorem dX12_quarrel_68 : decode cX12_quarrel 68 = .ok (.imul, 1) := by decide +kernel
theorem dX12_quarrel_69 : decode cX12_quarrel 69 = .ok (.iload_n 2, 1) := by decide +kernel
theorem dX12_quarrel_70 : decode cX12_quarrel 70 = .ok (.iadd, 1) := by decide +kernel
theorem dX12_quarrel_71 : decode cX12_quarrel 71 = .ok (.iload 4, 2) := by decide +kernel
theorem dX12_quarrel_73 : decode cX12_quarrel 73 = .ok (.bastore, 1) := by decide +kernel
theorem dX12_quarrel_74 : decode cX12_quarrel 74 = .ok (.aload_n 0, 1) := by decide +kernel
theorem dX12_quarrel_75 : decode cX12_quarrel 75 = .ok (.getfield 22, 3) := by decide +kernel
theorem dX12_quarrel_78 : decode cX12_quarrel 78 = .ok (.bipush 12, 2) := by decide +kernel
theorem dX12_quarrel_80 : decode cX12_quarrel 80 = .ok (.iload_n 2, 1) := by decide +kernel
theorem dX12_quarrel_81 : decode cX12_quarrel 81 = .ok (.imul, 1) := by decide +kernel
theorem dX12_quarrel_82 : decode cX12_quarrel 82 = .ok (.iload_n 1, 1) := by decide +kernel
theorem dX12_quarrel_83 : decode cX12_quarrel 83 = .ok (.iadd, 1) := by decide +kernel
theorem dX12_quarrel_84 : decode cX12_quarrel 84 = .ok (.iload 4, 2) := by decide +kernel
theorem dX12_quarrel_86 : decode cX12_quarrel 86 = .ok (.bastore, 1) := by decide +kernel
theorem dX12_quarrel_87 : decode cX12_quarrel 87 = .ok (.iconst 1, 1) := by decide +kernel
theorem dX12_quarrel_88 : decode cX12_quarrel 88 = .ok (.ireturn, 1) := by decide +kernel
theorem dX12_number_0 : decode cX12_number 0 = .ok (.iconst 0, 1) := by decide +kernel
theorem dX12_number_1 : decode cX12_number 1 = .ok (.istore_n 2, 1) := by decide +kernel
theorem dX12_number_2 : decode cX12_number 2 = .ok (.iconst 0, 1) := by decide +kernel
theorem dX12_number_3 : decode cX12_number 3 = .ok (.istore_n 3, 1) := by decide +kernel
theorem dX12_number_4 : decode cX12_number 4 = .ok (.iload_n 3, 1) := by decide +kernel
theorem dX12_number_5 : decode cX12_number 5 = .ok (.aload_n 0, 1) := by decide +kernel
theorem dX12_number_6 : decode cX12_number 6 = .ok (.invokevirtual 90, 3) := by decide +kernel
theorem dX12_number_9 : decode cX12_number 9 = .ok (.if_icmp .ge 74, 3) := by decide +kernel
theorem dX12_number_12 : decode cX12_number 12 = .ok (.iload_n 3, 1) := by decide +kernel
theorem dX12_number_13 : decode cX12_number 13 = .ok (.istore 4, 2) := by decide +kernel
theorem dX12_number_15 : decode cX12_number 15 = .ok (.iload_n 3, 1) := by decide +kernel
theorem dX12_number_16 : decode cX12_number 16 = .ok (.iconst 1, 1) := by decide +kernel
theorem dX12_number_17 : decode cX12_number 17 = .ok (.isub, 1) := by decide +kernel
theorem dX12_number_18 : decode cX12_number 18 = .ok (.istore 5, 2) := by decide +kernel
theorem dX12_number_20 : decode cX12_number 20 = .ok (.iload 5, 2) := by decide +kernel
theorem dX12_number_22 : decode cX12_number 22 = .ok (.ifCond .lt 23, 3) := by decide +kernel
theorem dX12_number_25 : decode cX12_number 25 = .ok (.aload_n 1, 1) := by decide +kernel
theorem dX12_number_26 : decode cX12_number 26 = .ok (.iload 5, 2) := by decide +kernel
theorem dX12_number_28 : decode cX12_number 28 = .ok (.iaload, 1) := by decide +kernel
theorem dX12_number_29 : decode cX12_number 29 = .ok (.aload_n 1, 1) := by decide +kernel
theorem dX12_number_30 : decode cX12_number 30 = .ok (.iload_n 3, 1) := by decide +kernel
theorem dX12_number_31 : decode cX12_number 31 = .ok (.iaload, 1) := by decide +kernel
theorem dX12_number_32 : decode cX12_number 32 = .ok (.if_icmp .ne 7, 3) := by decide +kernel
theorem dX12_number_35 : decode cX12_number 35 = .ok (.iload 5, 2) := by decide +kernel
theorem dX12_number_37 : decode cX12_number 37 = .ok (.istore 4, 2) := by decide +kernel
theorem dX12_number_39 : decode cX12_number 39 = .ok (.iinc 5 (-1), 3) := by decide +kernel
theorem dX12_number_42 : decode cX12_number 42 = .ok (.goto (-22), 3) := by decide +kernel
theorem dX12_number_45 : decode cX12_number 45 = .ok (.aload_n 0, 1) := by decide +kernel
theorem dX12_number_46 : decode cX12_number 46 = .ok (.getfield 64, 3) := by decide +kernel
theorem dX12_number_49 : decode cX12_number 49 = .ok (.iload_n 3, 1) := by decide +kernel
theorem dX12_number_50 : decode cX12_number 50 = .ok (.iload 4, 2) := by decide +kernel
theorem dX12_number_52 : decode cX12_number 52 = .ok (.iload_n 3, 1) := by decide +kernel
theorem dX12_number_53 : decode cX12_number 53 = .ok (.if_icmp .ne 7, 3) := by decide +kernel
theorem dX12_number_56 : decode cX12_number 56 = .ok (.iload_n 2, 1) := by decide +kernel
theorem dX12_number_57 : decode cX12_number 57 = .ok (.goto 10, 3) := by decide +kernel
theorem dX12_number_60 : decode cX12_number 60 = .ok (.aload_n 0, 1) := by decide +kernel
theorem dX12_number_61 : decode cX12_number 61 = .ok (.getfield 64, 3) := by decide +kernel
theorem dX12_number_64 : decode cX12_number 64 = .ok (.iload 4, 2) := by decide +kernel
theorem dX12_number_66 : decode cX12_number 66 = .ok (.iaload, 1) := by decide +kernel
theorem dX12_number_67 : decode cX12_number 67 = .ok (.iastore, 1) := by decide +kernel
theorem dX12_number_68 : decode cX12_number 68 = .ok (.iload 4, 2) := by decide +kernel
theorem dX12_number_70 : decode cX12_number 70 = .ok (.iload_n 3, 1) := by decide +kernel
theorem dX12_number_71 : decode cX12_number 71 = .ok (.if_icmp .ne 6, 3) := by decide +kernel
theorem dX12_number_74 : decode cX12_number 74 = .ok (.iinc 2 1, 3) := by decide +kernel
theorem dX12_number_77 : decode cX12_number 77 = .ok (.iinc 3 1, 3) := by decide +kernel
theorem dX12_number_80 : decode cX12_number 80 = .ok (.goto (-76), 3) := by decide +kernel
theorem dX12_number_83 : decode cX12_number 83 = .ok (.iconst 0, 1) := by decide +kernel
theorem dX12_number_84 : decode cX12_number 84 = .ok (.istore_n 3, 1) := by decide +kernel
theorem dX12_number_85 : decode cX12_number 85 = .ok (.iload_n 3, 1) := by decide +kernel
theorem dX12_number_86 : decode cX12_number 86 = .ok (.aload_n 0, 1) := by decide +kernel
theorem dX12_number_87 : decode cX12_number 87 = .ok (.invokevirtual 90, 3) := by decide +kernel
theorem dX12_number_90 : decode cX12_number 90 = .ok (.if_icmp .ge 18, 3) := by decide +kernel
theorem dX12_number_93 : decode cX12_number 93 = .ok (.aload_n 1, 1) := by decide +kernel
theorem dX12_number_94 : decode cX12_number 94 = .ok (.iload_n 3, 1) := by decide +kernel
theorem dX12_number_95 : decode cX12_number 95 = .ok (.aload_n 0, 1) := by decide +kernel
theorem dX12_number_96 : decode cX12_number 96 = .ok (.getfield 64, 3) := by decide +kernel
theorem dX12_number_99 : decode cX12_number 99 = .ok (.iload_n 3, 1) := by decide +kernel
theorem dX12_number_100 : decode cX12_number 100 = .ok (.iaload, 1) := by decide +kernel
theorem dX12_number_101 : decode cX12_number 101 = .ok (.iastore, 1) := by decide +kernel
theorem dX12_number_102 : decode cX12_number 102 = .ok (.iinc 3 1, 3) := by decide +kernel
theorem dX12_number_105 : decode cX12_number 105 = .ok (.goto (-20), 3) := by decide +kernel
theorem dX12_number_108 : decode cX12_number 108 = .ok (.iload_n 2, 1) := by decide +kernel
theorem dX12_number_109 : decode cX12_number 109 = .ok (.ireturn, 1) := by decide +kernel
theorem dX12_heaps_0 : decode cX12_heaps 0 = .ok (.iconst 0, 1) := by decide +kernel
theorem dX12_heaps_1 : decode cX12_heaps 1 = .ok (.istore_n 2, 1) := by decide +kernel
theorem dX12_heaps_2 : decode cX12_heaps 2 = .ok (.iconst 0, 1) := by decide +kernel
theorem dX12_heaps_3 : decode cX12_heaps 3 = .ok (.istore_n 3, 1) := by decide +kernel
theorem dX12_heaps_4 : decode cX12_heaps 4 = .ok (.iload_n 3, 1) := by decide +kernel
theorem dX12_heaps_5 : decode cX12_heaps 5 = .ok (.aload_n 0, 1) := by decide +kernel
theorem dX12_heaps_6 : decode cX12_heaps 6 = .ok (.invokevirtual 90, 3) := by decide +kernel
theorem dX12_heaps_9 : decode cX12_heaps 9 = .ok (.if_icmp .ge 19, 3) := by decide +kernel
theorem dX12_heaps_12 : decode cX12_heaps 12 = .ok (.iload_n 2, 1) := by decide +kernel
theorem dX12_heaps_13 : decode cX12_heaps 13 = .ok (.aload_n 1, 1) := by decide +kernel
theorem dX12_heaps_14 : decode cX12_heaps 14 = .ok (.iload_n 3, 1) := by decide +kernel
theorem dX12_heaps_15 : decode cX12_heaps 15 = .ok (.iaload, 1) := by decide +kernel
theorem dX12_heaps_16 : decode cX12_heaps 16 = .ok (.iconst 1, 1) := by decide +kernel
theorem dX12_heaps_17 : decode cX12_heaps 17 = .ok (.iadd, 1) := by decide +kernel
theorem dX12_heaps_18 : decode cX12_heaps 18 = .ok (.invokestatic 125, 3) := by decide +kernel
theorem dX12_heaps_21 : decode cX12_heaps 21 = .ok (.istore_n 2, 1) := by decide +kernel
theorem dX12_heaps_22 : decode cX12_heaps 22 = .ok (.iinc 3 1, 3) := by decide +kernel
theorem dX12_heaps_25 : decode cX12_heaps 25 = .ok (.goto (-21), 3) := by decide +kernel
theorem dX12_heaps_28 : decode cX12_heaps 28 = .ok (.iload_n 2, 1) := by decide +kernel
theorem dX12_heaps_29 : decode cX12_heaps 29 = .ok (.ireturn, 1) := by decide +kernel
theorem dX12_next_0 : decode cX12_next 0 = .ok (.aload_n 0, 1) := by decide +kernel
theorem dX12_next_1 : decode cX12_next 1 = .ok (.invokevirtual 90, 3) := by decide +kernel
theorem dX12_next_4 : decode cX12_next 4 = .ok (.iconst 1, 1) := by decide +kernel
theorem dX12_next_5 : decode cX12_next 5 = .ok (.isub, 1) := by decide +kernel
theorem dX12_next_6 : decode cX12_next 6 = .ok (.istore_n 1, 1) := by decide +kernel
theorem dX12_next_7 : decode cX12_next 7 = .ok (.iload_n 1, 1) := by decide +kernel
theorem dX12_next_8 : decode cX12_next 8 = .ok (.ifCond .le 85, 3) := by decide +kernel
theorem dX12_next_11 : decode cX12_next 11 = .ok (.iconst 0, 1) := by decide +kernel
theorem dX12_next_12 : decode cX12_next 12 = .ok (.istore_n 2, 1) := by decide +kernel
theorem dX12_next_13 : decode cX12_next 13 = .ok (.iconst 0, 1) := by decide +kernel
theorem dX12_next_14 : decode cX12_next 14 = .ok (.istore_n 3, 1) := by decide +kernel
theorem dX12_next_15 : decode cX12_next 15 = .ok (.iload_n 3, 1) := by decide +kernel
theorem dX12_next_16 : decode cX12_next 16 = .ok (.iload_n 1, 1) := by decide +kernel
theorem dX12_next_17 : decode cX12_next 17 = .ok (.if_icmp .ge 20, 3) := by decide +kernel
theorem dX12_next_20 : decode cX12_next 20 = .ok (.iload_n 2, 1) := by decide +kernel
theorem dX12_next_21 : decode cX12_next 21 = .ok (.aload_n 0, 1) := by decide +kernel
theorem dX12_next_22 : decode cX12_next 22 = .ok (.getfield 58, 3) := by decide +kernel
theorem dX12_next_25 : decode cX12_next 25 = .ok (.iload_n 3, 1) := by decide +kernel
theorem dX12_next_26 : decode cX12_next 26 = .ok (.iaload, 1) := by decide +kernel
theorem dX12_next_27 : decode cX12_next 27 = .ok (.invokestatic 125, 3) := by decide +kernel
theorem dX12_next_30 : decode cX12_next 30 = .ok (.istore_n 2, 1) := by decide +kernel
theorem dX12_next_31 : decode cX12_next 31 = .ok (.iinc 3 1, 3) := by decide +kernel
theorem dX12_next_34 : decode cX12_next 34 = .ok (.goto (-19), 3) := by decide +kernel
theorem dX12_next_37 : decode cX12_next 37 = .ok (.aload_n 0, 1) := by decide +kernel
theorem dX12_next_38 : decode cX12_next 38 = .ok (.getfield 58, 3) := by decide +kernel
theorem dX12_next_41 : decode cX12_next 41 = .ok (.iload_n 1, 1) := by decide +kernel
theorem dX12_next_42 : decode cX12_next 42 = .ok (.iaload, 1) := by decide +kernel
theorem dX12_next_43 : decode cX12_next 43 = .ok (.iload_n 2, 1) := by decide +kernel
theorem dX12_next_44 : decode cX12_next 44 = .ok (.if_icmp .le 6, 3) := by decide +kernel
theorem dX12_next_47 : decode cX12_next 47 = .ok (.goto 40, 3) := by decide +kernel
theorem dX12_next_50 : decode cX12_next 50 = .ok (.aload_n 0, 1) := by decide +kernel
theorem dX12_next_51 : decode cX12_next 51 = .ok (.getfield 58, 3) := by decide +kernel
theorem dX12_next_54 : decode cX12_next 54 = .ok (.iload_n 1, 1) := by decide +kernel
theorem dX12_next_55 : decode cX12_next 55 = .ok (.dup2, 1) := by decide +kernel
theorem dX12_next_56 : decode cX12_next 56 = .ok (.iaload, 1) := by decide +kernel
theorem dX12_next_57 : decode cX12_next 57 = .ok (.iconst 1, 1) := by decide +kernel
theorem dX12_next_58 : decode cX12_next 58 = .ok (.iadd, 1) := by decide +kernel
theorem dX12_next_59 : decode cX12_next 59 = .ok (.iastore, 1) := by decide +kernel
theorem dX12_next_60 : decode cX12_next 60 = .ok (.iload_n 1, 1) := by decide +kernel
theorem dX12_next_61 : decode cX12_next 61 = .ok (.iconst 1, 1) := by decide +kernel
theorem dX12_next_62 : decode cX12_next 62 = .ok (.iadd, 1) := by decide +kernel
theorem dX12_next_63 : decode cX12_next 63 = .ok (.istore_n 3, 1) := by decide +kernel
theorem dX12_next_64 : decode cX12_next 64 = .ok (.iload_n 3, 1) := by decide +kernel
theorem dX12_next_65 : decode cX12_next 65 = .ok (.aload_n 0, 1) := by decide +kernel
theorem dX12_next_66 : decode cX12_next 66 = .ok (.invokevirtual 90, 3) := by decide +kernel
theorem dX12_next_69 : decode cX12_next 69 = .ok (.if_icmp .ge 16, 3) := by decide +kernel
theorem dX12_next_72 : decode cX12_next 72 = .ok (.aload_n 0, 1) := by decide +kernel
theorem dX12_next_73 : decode cX12_next 73 = .ok (.getfield 58, 3) := by decide +kernel
theorem dX12_next_76 : decode cX12_next 76 = .ok (.iload_n 3, 1) := by decide +kernel
theorem dX12_next_77 : decode cX12_next 77 = .ok (.iconst 0, 1) := by decide +kernel
theorem dX12_next_78 : decode cX12_next 78 = .ok (.iastore, 1) := by decide +kernel
theorem dX12_next_79 : decode cX12_next 79 = .ok (.iinc 3 1, 3) := by decide +kernel
theorem dX12_next_82 : decode cX12_next 82 = .ok (.goto (-18), 3) := by decide +kernel
theorem dX12_next_85 : decode cX12_next 85 = .ok (.iconst 1, 1) := by decide +kernel
theorem dX12_next_86 : decode cX12_next 86 = .ok (.ireturn, 1) := by decide +kernel
theorem dX12_next_87 : decode cX12_next 87 = .ok (.iinc 1 (-1), 3) := by decide +kernel
theorem dX12_next_90 : decode cX12_next 90 = .ok (.goto (-83), 3) := by decide +kernel
theorem dX12_next_93 : decode cX12_next 93 = .ok (.iconst 0, 1) := by decide +kernel
theorem dX12_next_94 : decode cX12_next 94 = .ok (.ireturn, 1) := by decide +kernel
theorem dX12_isAhead_0 : decode cX12_isAhead 0 = .ok (.iconst 0, 1) := by decide +kernel
theorem dX12_isAhead_1 : decode cX12_isAhead 1 = .ok (.istore_n 3, 1) := by decide +kernel
theorem dX12_isAhead_2 : decode cX12_isAhead 2 = .ok (.iload_n 3, 1) := by decide +kernel
theorem dX12_isAhead_3 : decode cX12_isAhead 3 = .ok (.aload_n 0, 1) := by decide +kernel
theorem dX12_isAhead_4 : decode cX12_isAhead 4 = .ok (.invokevirtual 90, 3) := by decide +kernel
theorem dX12_isAhead_7 : decode cX12_isAhead 7 = .ok (.if_icmp .ge 33, 3) := by decide +kernel
theorem dX12_isAhead_10 : decode cX12_isAhead 10 = .ok (.aload_n 1, 1) := by decide +kernel
theorem dX12_isAhead_11 : decode cX12_isAhead 11 = .ok (.iload_n 3, 1) := by decide +kernel
theorem dX12_isAhead_12 : decode cX12_isAhead 12 = .ok (.iaload, 1) := by decide +kernel
theorem dX12_isAhead_13 : decode cX12_isAhead 13 = .ok (.aload_n 2, 1) := by decide +kernel
theorem dX12_isAhead_14 : decode cX12_isAhead 14 = .ok (.iload_n 3, 1) := by decide +kernel
theorem dX12_isAhead_15 : decode cX12_isAhead 15 = .ok (.iaload, 1) := by decide +kernel
theorem dX12_isAhead_16 : decode cX12_isAhead 16 = .ok (.if_icmp .eq 18, 3) := by decide +kernel
theorem dX12_isAhead_19 : decode cX12_isAhead 19 = .ok (.aload_n 1, 1) := by decide +kernel
theorem dX12_isAhead_20 : decode cX12_isAhead 20 = .ok (.iload_n 3, 1) := by decide +kernel
theorem dX12_isAhead_21 : decode cX12_isAhead 21 = .ok (.iaload, 1) := by decide +kernel
theorem dX12_isAhead_22 : decode cX12_isAhead 22 = .ok (.aload_n 2, 1) := by decide +kernel
theorem dX12_isAhead_23 : decode cX12_isAhead 23 = .ok (.iload_n 3, 1) := by decide +kernel
theorem dX12_isAhead_24 : decode cX12_isAhead 24 = .ok (.iaload, 1) := by decide +kernel
theorem dX12_isAhead_25 : decode cX12_isAhead 25 = .ok (.if_icmp .ge 7, 3) := by decide +kernel
theorem dX12_isAhead_28 : decode cX12_isAhead 28 = .ok (.iconst 1, 1) := by decide +kernel
theorem dX12_isAhead_29 : decode cX12_isAhead 29 = .ok (.goto 4, 3) := by decide +kernel
theorem dX12_isAhead_32 : decode cX12_isAhead 32 = .ok (.iconst 0, 1) := by decide +kernel
theorem dX12_isAhead_33 : decode cX12_isAhead 33 = .ok (.ireturn, 1) := by decide +kernel
theorem dX12_isAhead_34 : decode cX12_isAhead 34 = .ok (.iinc 3 1, 3) := by decide +kernel
theorem dX12_isAhead_37 : decode cX12_isAhead 37 = .ok (.goto (-35), 3) := by decide +kernel
theorem dX12_isAhead_40 : decode cX12_isAhead 40 = .ok (.iconst 0, 1) := by decide +kernel
theorem dX12_isAhead_41 : decode cX12_isAhead 41 = .ok (.ireturn, 1) := by decide +kernel
theorem dX12_useWays_0 : decode cX12_useWays 0 = .ok (.iconst 0, 1) := by decide +kernel
theorem dX12_useWays_1 : decode cX12_useWays 1 = .ok (.istore_n 1, 1) := by decide +kernel
theorem dX12_useWays_2 : decode cX12_useWays 2 = .ok (.iload_n 1, 1) := by decide +kernel
theorem dX12_useWays_3 : decode cX12_useWays 3 = .ok (.sipush 144, 3) := by decide +kernel
theorem dX12_useWays_6 : decode cX12_useWays 6 = .ok (.if_icmp .ge 21, 3) := by decide +kernel
theorem dX12_useWays_9 : decode cX12_useWays 9 = .ok (.aload_n 0, 1) := by decide +kernel
theorem dX12_useWays_10 : decode cX12_useWays 10 = .ok (.getfield 67, 3) := by decide +kernel
theorem dX12_useWays_13 : decode cX12_useWays 13 = .ok (.iload_n 1, 1) := by decide +kernel
theorem dX12_useWays_14 : decode cX12_useWays 14 = .ok (.aload_n 0, 1) := by decide +kernel
theorem dX12_useWays_15 : decode cX12_useWays 15 = .ok (.getfield 16, 3) := by decide +kernel
theorem dX12_useWays_18 : decode cX12_useWays 18 = .ok (.iload_n 1, 1) := by decide +kernel
theorem dX12_useWays_19 : decode cX12_useWays 19 = .ok (.iaload, 1) := by decide +kernel
theorem dX12_useWays_20 : decode cX12_useWays 20 = .ok (.iastore, 1) := by decide +kernel
theorem dX12_useWays_21 : decode cX12_useWays 21 = .ok (.iinc 1 1, 3) := by decide +kernel
theorem dX12_useWays_24 : decode cX12_useWays 24 = .ok (.goto (-22), 3) := by decide +kernel
theorem dX12_useWays_27 : decode cX12_useWays 27 = .ok (.return_, 1) := by decide +kernel
theorem dX12_sumTo_0 : decode cX12_sumTo 0 = .ok (.iconst 0, 1) := by decide +kernel
theorem dX12_sumTo_1 : decode cX12_sumTo 1 = .ok (.istore 4, 2) := by decide +kernel
theorem dX12_sumTo_3 : decode cX12_sumTo 3 = .ok (.iconst 0, 1) := by decide +kernel
theorem dX12_sumTo_4 : decode cX12_sumTo 4 = .ok (.istore 5, 2) := by decide +kernel
theorem dX12_sumTo_6 : decode cX12_sumTo 6 = .ok (.iload 5, 2) := by decide +kernel
theorem dX12_sumTo_8 : decode cX12_sumTo 8 = .ok (.aload_n 0, 1) := by decide +kernel
theorem dX12_sumTo_9 : decode cX12_sumTo 9 = .ok (.invokevirtual 90, 3) := by decide +kernel
theorem dX12_sumTo_12 : decode cX12_sumTo 12 = .ok (.if_icmp .ge 34, 3) := by decide +kernel
theorem dX12_sumTo_15 : decode cX12_sumTo 15 = .ok (.aload_n 1, 1) := by decide +kernel
theorem dX12_sumTo_16 : decode cX12_sumTo 16 = .ok (.iload 5, 2) := by decide +kernel
theorem dX12_sumTo_18 : decode cX12_sumTo 18 = .ok (.iaload, 1) := by decide +kernel
theorem dX12_sumTo_19 : decode cX12_sumTo 19 = .ok (.iload_n 2, 1) := by decide +kernel
theorem dX12_sumTo_20 : decode cX12_sumTo 20 = .ok (.if_icmp .ne 20, 3) := by decide +kernel
theorem dX12_sumTo_23 : decode cX12_sumTo 23 = .ok (.iload 4, 2) := by decide +kernel
theorem dX12_sumTo_25 : decode cX12_sumTo 25 = .ok (.aload_n 0, 1) := by decide +kernel
theorem dX12_sumTo_26 : decode cX12_sumTo 26 = .ok (.getfield 67, 3) := by decide +kernel
theorem dX12_sumTo_29 : decode cX12_sumTo 29 = .ok (.bipush 12, 2) := by decide +kernel
theorem dX12_sumTo_31 : decode cX12_sumTo 31 = .ok (.iload_n 3, 1) := by decide +kernel
theorem dX12_sumTo_32 : decode cX12_sumTo 32 = .ok (.imul, 1) := by decide +kernel
theorem dX12_sumTo_33 : decode cX12_sumTo 33 = .ok (.iload 5, 2) := by decide +kernel
theorem dX12_sumTo_35 : decode cX12_sumTo 35 = .ok (.iadd, 1) := by decide +kernel
theorem dX12_sumTo_36 : decode cX12_sumTo 36 = .ok (.iaload, 1) := by decide +kernel
theorem dX12_sumTo_37 : decode cX12_sumTo 37 = .ok (.iadd, 1) := by decide +kernel
theorem dX12_sumTo_38 : decode cX12_sumTo 38 = .ok (.istore 4, 2) := by decide +kernel
theorem dX12_sumTo_40 : decode cX12_sumTo 40 = .ok (.iinc 5 1, 3) := by decide +kernel
theorem dX12_sumTo_43 : decode cX12_sumTo 43 = .ok (.goto (-37), 3) := by decide +kernel
theorem dX12_sumTo_46 : decode cX12_sumTo 46 = .ok (.iload 4, 2) := by decide +kernel
theorem dX12_sumTo_48 : decode cX12_sumTo 48 = .ok (.ireturn, 1) := by decide +kernel
theorem dX12_middleOf_0 : decode cX12_middleOf 0 = .ok (.iconst (-1), 1) := by decide +kernel
theorem dX12_middleOf_1 : decode cX12_middleOf 1 = .ok (.istore_n 3, 1) := by decide +kernel
theorem dX12_middleOf_2 : decode cX12_middleOf 2 = .ok (.iconst 0, 1) := by decide +kernel
theorem dX12_middleOf_3 : decode cX12_middleOf 3 = .ok (.istore 4, 2) := by decide +kernel
theorem dX12_middleOf_5 : decode cX12_middleOf 5 = .ok (.iload 4, 2) := by decide +kernel
theorem dX12_middleOf_7 : decode cX12_middleOf 7 = .ok (.aload_n 0, 1) := by decide +kernel
theorem dX12_middleOf_8 : decode cX12_middleOf 8 = .ok (.invokevirtual 90, 3) := by decide +kernel
theorem dX12_middleOf_11 : decode cX12_middleOf 11 = .ok (.if_icmp .ge 46, 3) := by decide +kernel
theorem dX12_middleOf_14 : decode cX12_middleOf 14 = .ok (.aload_n 1, 1) := by decide +kernel
theorem dX12_middleOf_15 : decode cX12_middleOf 15 = .ok (.iload 4, 2) := by decide +kernel
theorem dX12_middleOf_17 : decode cX12_middleOf 17 = .ok (.iaload, 1) := by decide +kernel
theorem dX12_middleOf_18 : decode cX12_middleOf 18 = .ok (.iload_n 2, 1) := by decide +kernel
theorem dX12_middleOf_19 : decode cX12_middleOf 19 = .ok (.if_icmp .eq 6, 3) := by decide +kernel
theorem dX12_middleOf_22 : decode cX12_middleOf 22 = .ok (.goto 29, 3) := by decide +kernel
theorem dX12_middleOf_25 : decode cX12_middleOf 25 = .ok (.iload_n 3, 1) := by decide +kernel
theorem dX12_middleOf_26 : decode cX12_middleOf 26 = .ok (.iconst (-1), 1) := by decide +kernel
theorem dX12_middleOf_27 : decode cX12_middleOf 27 = .ok (.if_icmp .eq 21, 3) := by decide +kernel
theorem dX12_middleOf_30 : decode cX12_middleOf 30 = .ok (.aload_n 0, 1) := by decide +kernel
theorem dX12_middleOf_31 : decode cX12_middleOf 31 = .ok (.aload_n 1, 1) := by decide +kernel
theorem dX12_middleOf_32 : decode cX12_middleOf 32 = .ok (.iload_n 2, 1) := by decide +kernel
theorem dX12_middleOf_33 : decode cX12_middleOf 33 = .ok (.iload 4, 2) := by decide +kernel
theorem dX12_middleOf_35 : decode cX12_middleOf 35 = .ok (.invokevirtual 129, 3) := by decide +kernel
theorem dX12_middleOf_38 : decode cX12_middleOf 38 = .ok (.aload_n 0, 1) := by decide +kernel
theorem dX12_middleOf_39 : decode cX12_middleOf 39 = .ok (.aload_n 1, 1) := by decide +kernel
theorem dX12_middleOf_40 : decode cX12_middleOf 40 = .ok (.iload_n 2, 1) := by decide +kernel
theorem dX12_middleOf_41 : decode cX12_middleOf 41 = .ok (.iload_n 3, 1) := by decide +kernel
theorem dX12_middleOf_42 : decode cX12_middleOf 42 = .ok (.invokevirtual 129, 3) := by decide +kernel
theorem dX12_middleOf_45 : decode cX12_middleOf 45 = .ok (.if_icmp .ge 6, 3) := by decide +kernel
theorem dX12_middleOf_48 : decode cX12_middleOf 48 = .ok (.iload 4, 2) := by decide +kernel
theorem dX12_middleOf_50 : decode cX12_middleOf 50 = .ok (.istore_n 3, 1) := by decide +kernel
theorem dX12_middleOf_51 : decode cX12_middleOf 51 = .ok (.iinc 4 1, 3) := by decide +kernel
theorem dX12_middleOf_54 : decode cX12_middleOf 54 = .ok (.goto (-49), 3) := by decide +kernel
end
section
theorem dX12_middleOf_57 : decode cX12_middleOf 57 = .ok (.iload_n 3, 1) := by decide +kernel
theorem dX12_middleOf_58 : decode cX12_middleOf 58 = .ok (.ireturn, 1) := by decide +kernel
theorem dX12_costOf_0 : decode cX12_costOf 0 = .ok (.lconst 0, 1) := by decide +kernel
theorem dX12_costOf_1 : decode cX12_costOf 1 = .ok (.lstore_n 3, 1) := by decide +kernel
theorem dX12_costOf_2 : decode cX12_costOf 2 = .ok (.aload_n 0, 1) := by decide +kernel
theorem dX12_costOf_3 : decode cX12_costOf 3 = .ok (.aload_n 1, 1) := by decide +kernel
theorem dX12_costOf_4 : decode cX12_costOf 4 = .ok (.invokevirtual 133, 3) := by decide +kernel
theorem dX12_costOf_7 : decode cX12_costOf 7 = .ok (.istore 5, 2) := by decide +kernel
theorem dX12_costOf_9 : decode cX12_costOf 9 = .ok (.iload_n 2, 1) := by decide +kernel
theorem dX12_costOf_10 : decode cX12_costOf 10 = .ok (.ifCond .ne 138, 3) := by decide +kernel
theorem dX12_costOf_13 : decode cX12_costOf 13 = .ok (.iconst 0, 1) := by decide +kernel
theorem dX12_costOf_14 : decode cX12_costOf 14 = .ok (.istore 6, 2) := by decide +kernel
theorem dX12_costOf_16 : decode cX12_costOf 16 = .ok (.iload 6, 2) := by decide +kernel
theorem dX12_costOf_18 : decode cX12_costOf 18 = .ok (.iload 5, 2) := by decide +kernel
theorem dX12_costOf_20 : decode cX12_costOf 20 = .ok (.if_icmp .ge 125, 3) := by decide +kernel
theorem dX12_costOf_23 : decode cX12_costOf 23 = .ok (.lconst 0, 1) := by decide +kernel
theorem dX12_costOf_24 : decode cX12_costOf 24 = .ok (.lstore 7, 2) := by decide +kernel
theorem dX12_costOf_26 : decode cX12_costOf 26 = .ok (.iconst 0, 1) := by decide +kernel
theorem dX12_costOf_27 : decode cX12_costOf 27 = .ok (.istore 9, 2) := by decide +kernel
theorem dX12_costOf_29 : decode cX12_costOf 29 = .ok (.iconst 0, 1) := by decide +kernel
theorem dX12_costOf_30 : decode cX12_costOf 30 = .ok (.istore 10, 2) := by decide +kernel
theorem dX12_costOf_32 : decode cX12_costOf 32 = .ok (.iload 10, 2) := by decide +kernel
theorem dX12_costOf_34 : decode cX12_costOf 34 = .ok (.aload_n 0, 1) := by decide +kernel
theorem dX12_costOf_35 : decode cX12_costOf 35 = .ok (.invokevirtual 90, 3) := by decide +kernel
theorem dX12_costOf_38 : decode cX12_costOf 38 = .ok (.if_icmp .ge 88, 3) := by decide +kernel
theorem dX12_costOf_41 : decode cX12_costOf 41 = .ok (.aload_n 1, 1) := by decide +kernel
theorem dX12_costOf_42 : decode cX12_costOf 42 = .ok (.iload 10, 2) := by decide +kernel
theorem dX12_costOf_44 : decode cX12_costOf 44 = .ok (.iaload, 1) := by decide +kernel
theorem dX12_costOf_45 : decode cX12_costOf 45 = .ok (.iload 6, 2) := by decide +kernel
theorem dX12_costOf_47 : decode cX12_costOf 47 = .ok (.if_icmp .eq 6, 3) := by decide +kernel
theorem dX12_costOf_50 : decode cX12_costOf 50 = .ok (.goto 70, 3) := by decide +kernel
theorem dX12_costOf_53 : decode cX12_costOf 53 = .ok (.iinc 9 1, 3) := by decide +kernel
theorem dX12_costOf_56 : decode cX12_costOf 56 = .ok (.iload 10, 2) := by decide +kernel
theorem dX12_costOf_58 : decode cX12_costOf 58 = .ok (.iconst 1, 1) := by decide +kernel
theorem dX12_costOf_59 : decode cX12_costOf 59 = .ok (.iadd, 1) := by decide +kernel
theorem dX12_costOf_60 : decode cX12_costOf 60 = .ok (.istore 11, 2) := by decide +kernel
theorem dX12_costOf_62 : decode cX12_costOf 62 = .ok (.iload 11, 2) := by decide +kernel
theorem dX12_costOf_64 : decode cX12_costOf 64 = .ok (.aload_n 0, 1) := by decide +kernel
theorem dX12_costOf_65 : decode cX12_costOf 65 = .ok (.invokevirtual 90, 3) := by decide +kernel
theorem dX12_costOf_68 : decode cX12_costOf 68 = .ok (.if_icmp .ge 52, 3) := by decide +kernel
theorem dX12_costOf_71 : decode cX12_costOf 71 = .ok (.aload_n 1, 1) := by decide +kernel
theorem dX12_costOf_72 : decode cX12_costOf 72 = .ok (.iload 11, 2) := by decide +kernel
theorem dX12_costOf_74 : decode cX12_costOf 74 = .ok (.iaload, 1) := by decide +kernel
theorem dX12_costOf_75 : decode cX12_costOf 75 = .ok (.iload 6, 2) := by decide +kernel
theorem dX12_costOf_77 : decode cX12_costOf 77 = .ok (.if_icmp .ne 37, 3) := by decide +kernel
theorem dX12_costOf_80 : decode cX12_costOf 80 = .ok (.lload 7, 2) := by decide +kernel
theorem dX12_costOf_82 : decode cX12_costOf 82 = .ok (.aload_n 0, 1) := by decide +kernel
theorem dX12_costOf_83 : decode cX12_costOf 83 = .ok (.getfield 67, 3) := by decide +kernel
theorem dX12_costOf_86 : decode cX12_costOf 86 = .ok (.bipush 12, 2) := by decide +kernel
theorem dX12_costOf_88 : decode cX12_costOf 88 = .ok (.iload 10, 2) := by decide +kernel
theorem dX12_costOf_90 : decode cX12_costOf 90 = .ok (.imul, 1) := by decide +kernel
theorem dX12_costOf_91 : decode cX12_costOf 91 = .ok (.iload 11, 2) := by decide +kernel
theorem dX12_costOf_93 : decode cX12_costOf 93 = .ok (.iadd, 1) := by decide +kernel
theorem dX12_costOf_94 : decode cX12_costOf 94 = .ok (.iaload, 1) := by decide +kernel
theorem dX12_costOf_95 : decode cX12_costOf 95 = .ok (.i2l, 1) := by decide +kernel
theorem dX12_costOf_96 : decode cX12_costOf 96 = .ok (.aload_n 0, 1) := by decide +kernel
theorem dX12_costOf_97 : decode cX12_costOf 97 = .ok (.getfield 67, 3) := by decide +kernel
theorem dX12_costOf_100 : decode cX12_costOf 100 = .ok (.bipush 12, 2) := by decide +kernel
theorem dX12_costOf_102 : decode cX12_costOf 102 = .ok (.iload 10, 2) := by decide +kernel
theorem dX12_costOf_104 : decode cX12_costOf 104 = .ok (.imul, 1) := by decide +kernel
theorem dX12_costOf_105 : decode cX12_costOf 105 = .ok (.iload 11, 2) := by decide +kernel
theorem dX12_costOf_107 : decode cX12_costOf 107 = .ok (.iadd, 1) := by decide +kernel
theorem dX12_costOf_108 : decode cX12_costOf 108 = .ok (.iaload, 1) := by decide +kernel
theorem dX12_costOf_109 : decode cX12_costOf 109 = .ok (.i2l, 1) := by decide +kernel
theorem dX12_costOf_110 : decode cX12_costOf 110 = .ok (.lmul, 1) := by decide +kernel
theorem dX12_costOf_111 : decode cX12_costOf 111 = .ok (.ladd, 1) := by decide +kernel
theorem dX12_costOf_112 : decode cX12_costOf 112 = .ok (.lstore 7, 2) := by decide +kernel
theorem dX12_costOf_114 : decode cX12_costOf 114 = .ok (.iinc 11 1, 3) := by decide +kernel
theorem dX12_costOf_117 : decode cX12_costOf 117 = .ok (.goto (-55), 3) := by decide +kernel
theorem dX12_costOf_120 : decode cX12_costOf 120 = .ok (.iinc 10 1, 3) := by decide +kernel
theorem dX12_costOf_123 : decode cX12_costOf 123 = .ok (.goto (-91), 3) := by decide +kernel
theorem dX12_costOf_126 : decode cX12_costOf 126 = .ok (.lload_n 3, 1) := by decide +kernel
theorem dX12_costOf_127 : decode cX12_costOf 127 = .ok (.lload 7, 2) := by decide +kernel
theorem dX12_costOf_129 : decode cX12_costOf 129 = .ok (.sipush 27720, 3) := by decide +kernel
theorem dX12_costOf_132 : decode cX12_costOf 132 = .ok (.iload 9, 2) := by decide +kernel
theorem dX12_costOf_134 : decode cX12_costOf 134 = .ok (.idiv, 1) := by decide +kernel
theorem dX12_costOf_135 : decode cX12_costOf 135 = .ok (.i2l, 1) := by decide +kernel
theorem dX12_costOf_136 : decode cX12_costOf 136 = .ok (.lmul, 1) := by decide +kernel
theorem dX12_costOf_137 : decode cX12_costOf 137 = .ok (.ladd, 1) := by decide +kernel
theorem dX12_costOf_138 : decode cX12_costOf 138 = .ok (.lstore_n 3, 1) := by decide +kernel
theorem dX12_costOf_139 : decode cX12_costOf 139 = .ok (.iinc 6 1, 3) := by decide +kernel
theorem dX12_costOf_142 : decode cX12_costOf 142 = .ok (.goto (-126), 3) := by decide +kernel
theorem dX12_costOf_145 : decode cX12_costOf 145 = .ok (.goto 165, 3) := by decide +kernel
theorem dX12_costOf_148 : decode cX12_costOf 148 = .ok (.iload_n 2, 1) := by decide +kernel
theorem dX12_costOf_149 : decode cX12_costOf 149 = .ok (.iconst 1, 1) := by decide +kernel
theorem dX12_costOf_150 : decode cX12_costOf 150 = .ok (.if_icmp .ne 40, 3) := by decide +kernel
theorem dX12_costOf_153 : decode cX12_costOf 153 = .ok (.iconst 0, 1) := by decide +kernel
theorem dX12_costOf_154 : decode cX12_costOf 154 = .ok (.istore 6, 2) := by decide +kernel
theorem dX12_costOf_156 : decode cX12_costOf 156 = .ok (.iload 6, 2) := by decide +kernel
theorem dX12_costOf_158 : decode cX12_costOf 158 = .ok (.iload 5, 2) := by decide +kernel
theorem dX12_costOf_160 : decode cX12_costOf 160 = .ok (.if_icmp .ge 27, 3) := by decide +kernel
theorem dX12_costOf_163 : decode cX12_costOf 163 = .ok (.lload_n 3, 1) := by decide +kernel
theorem dX12_costOf_164 : decode cX12_costOf 164 = .ok (.aload_n 0, 1) := by decide +kernel
theorem dX12_costOf_165 : decode cX12_costOf 165 = .ok (.aload_n 1, 1) := by decide +kernel
theorem dX12_costOf_166 : decode cX12_costOf 166 = .ok (.iload 6, 2) := by decide +kernel
theorem dX12_costOf_168 : decode cX12_costOf 168 = .ok (.aload_n 0, 1) := by decide +kernel
theorem dX12_costOf_169 : decode cX12_costOf 169 = .ok (.aload_n 1, 1) := by decide +kernel
theorem dX12_costOf_170 : decode cX12_costOf 170 = .ok (.iload 6, 2) := by decide +kernel
theorem dX12_costOf_172 : decode cX12_costOf 172 = .ok (.invokevirtual 137, 3) := by decide +kernel
theorem dX12_costOf_175 : decode cX12_costOf 175 = .ok (.invokevirtual 129, 3) := by decide +kernel
theorem dX12_costOf_178 : decode cX12_costOf 178 = .ok (.i2l, 1) := by decide +kernel
theorem dX12_costOf_179 : decode cX12_costOf 179 = .ok (.ladd, 1) := by decide +kernel
theorem dX12_costOf_180 : decode cX12_costOf 180 = .ok (.lstore_n 3, 1) := by decide +kernel
theorem dX12_costOf_181 : decode cX12_costOf 181 = .ok (.iinc 6 1, 3) := by decide +kernel
theorem dX12_costOf_184 : decode cX12_costOf 184 = .ok (.goto (-28), 3) := by decide +kernel
theorem dX12_costOf_187 : decode cX12_costOf 187 = .ok (.goto 123, 3) := by decide +kernel
theorem dX12_costOf_190 : decode cX12_costOf 190 = .ok (.iconst 0, 1) := by decide +kernel
theorem dX12_costOf_191 : decode cX12_costOf 191 = .ok (.istore 6, 2) := by decide +kernel
theorem dX12_costOf_193 : decode cX12_costOf 193 = .ok (.iload 6, 2) := by decide +kernel
theorem dX12_costOf_195 : decode cX12_costOf 195 = .ok (.aload_n 0, 1) := by decide +kernel
theorem dX12_costOf_196 : decode cX12_costOf 196 = .ok (.invokevirtual 90, 3) := by decide +kernel
theorem dX12_costOf_199 : decode cX12_costOf 199 = .ok (.if_icmp .ge 111, 3) := by decide +kernel
theorem dX12_costOf_202 : decode cX12_costOf 202 = .ok (.iload 6, 2) := by decide +kernel
theorem dX12_costOf_204 : decode cX12_costOf 204 = .ok (.iconst 1, 1) := by decide +kernel
theorem dX12_costOf_205 : decode cX12_costOf 205 = .ok (.iadd, 1) := by decide +kernel
theorem dX12_costOf_206 : decode cX12_costOf 206 = .ok (.istore 7, 2) := by decide +kernel
theorem dX12_costOf_208 : decode cX12_costOf 208 = .ok (.iload 7, 2) := by decide +kernel
theorem dX12_costOf_210 : decode cX12_costOf 210 = .ok (.aload_n 0, 1) := by decide +kernel
theorem dX12_costOf_211 : decode cX12_costOf 211 = .ok (.invokevirtual 90, 3) := by decide +kernel
theorem dX12_costOf_214 : decode cX12_costOf 214 = .ok (.if_icmp .ge 90, 3) := by decide +kernel
theorem dX12_costOf_217 : decode cX12_costOf 217 = .ok (.bipush 12, 2) := by decide +kernel
theorem dX12_costOf_219 : decode cX12_costOf 219 = .ok (.iload 6, 2) := by decide +kernel
theorem dX12_costOf_221 : decode cX12_costOf 221 = .ok (.imul, 1) := by decide +kernel
theorem dX12_costOf_222 : decode cX12_costOf 222 = .ok (.iload 7, 2) := by decide +kernel
theorem dX12_costOf_224 : decode cX12_costOf 224 = .ok (.iadd, 1) := by decide +kernel
theorem dX12_costOf_225 : decode cX12_costOf 225 = .ok (.istore 8, 2) := by decide +kernel
theorem dX12_costOf_227 : decode cX12_costOf 227 = .ok (.iload_n 2, 1) := by decide +kernel
theorem dX12_costOf_228 : decode cX12_costOf 228 = .ok (.iconst 2, 1) := by decide +kernel
theorem dX12_costOf_229 : decode cX12_costOf 229 = .ok (.if_icmp .ne 27, 3) := by decide +kernel
theorem dX12_costOf_232 : decode cX12_costOf 232 = .ok (.aload_n 1, 1) := by decide +kernel
theorem dX12_costOf_233 : decode cX12_costOf 233 = .ok (.iload 6, 2) := by decide +kernel
theorem dX12_costOf_235 : decode cX12_costOf 235 = .ok (.iaload, 1) := by decide +kernel
theorem dX12_costOf_236 : decode cX12_costOf 236 = .ok (.aload_n 1, 1) := by decide +kernel
theorem dX12_costOf_237 : decode cX12_costOf 237 = .ok (.iload 7, 2) := by decide +kernel
theorem dX12_costOf_239 : decode cX12_costOf 239 = .ok (.iaload, 1) := by decide +kernel
theorem dX12_costOf_240 : decode cX12_costOf 240 = .ok (.if_icmp .ne 16, 3) := by decide +kernel
theorem dX12_costOf_243 : decode cX12_costOf 243 = .ok (.lload_n 3, 1) := by decide +kernel
theorem dX12_costOf_244 : decode cX12_costOf 244 = .ok (.aload_n 0, 1) := by decide +kernel
theorem dX12_costOf_245 : decode cX12_costOf 245 = .ok (.getfield 67, 3) := by decide +kernel
theorem dX12_costOf_248 : decode cX12_costOf 248 = .ok (.iload 8, 2) := by decide +kernel
theorem dX12_costOf_250 : decode cX12_costOf 250 = .ok (.iaload, 1) := by decide +kernel
theorem dX12_costOf_251 : decode cX12_costOf 251 = .ok (.i2l, 1) := by decide +kernel
theorem dX12_costOf_252 : decode cX12_costOf 252 = .ok (.invokestatic 141, 3) := by decide +kernel
theorem dX12_costOf_255 : decode cX12_costOf 255 = .ok (.lstore_n 3, 1) := by decide +kernel
theorem dX12_costOf_256 : decode cX12_costOf 256 = .ok (.iload_n 2, 1) := by decide +kernel
theorem dX12_costOf_257 : decode cX12_costOf 257 = .ok (.iconst 3, 1) := by decide +kernel
theorem dX12_costOf_258 : decode cX12_costOf 258 = .ok (.if_icmp .ne 40, 3) := by decide +kernel
theorem dX12_costOf_261 : decode cX12_costOf 261 = .ok (.aload_n 0, 1) := by decide +kernel
theorem dX12_costOf_262 : decode cX12_costOf 262 = .ok (.getfield 22, 3) := by decide +kernel
theorem dX12_costOf_265 : decode cX12_costOf 265 = .ok (.iload 8, 2) := by decide +kernel
theorem dX12_costOf_267 : decode cX12_costOf 267 = .ok (.baload, 1) := by decide +kernel
theorem dX12_costOf_268 : decode cX12_costOf 268 = .ok (.aload_n 1, 1) := by decide +kernel
theorem dX12_costOf_269 : decode cX12_costOf 269 = .ok (.iload 6, 2) := by decide +kernel
theorem dX12_costOf_271 : decode cX12_costOf 271 = .ok (.iaload, 1) := by decide +kernel
theorem dX12_costOf_272 : decode cX12_costOf 272 = .ok (.aload_n 1, 1) := by decide +kernel
theorem dX12_costOf_273 : decode cX12_costOf 273 = .ok (.iload 7, 2) := by decide +kernel
theorem dX12_costOf_275 : decode cX12_costOf 275 = .ok (.iaload, 1) := by decide +kernel
theorem dX12_costOf_276 : decode cX12_costOf 276 = .ok (.if_icmp .ne 7, 3) := by decide +kernel
theorem dX12_costOf_279 : decode cX12_costOf 279 = .ok (.iconst 1, 1) := by decide +kernel
theorem dX12_costOf_280 : decode cX12_costOf 280 = .ok (.goto 4, 3) := by decide +kernel
theorem dX12_costOf_283 : decode cX12_costOf 283 = .ok (.iconst 0, 1) := by decide +kernel
theorem dX12_costOf_284 : decode cX12_costOf 284 = .ok (.if_icmp .eq 14, 3) := by decide +kernel
theorem dX12_costOf_287 : decode cX12_costOf 287 = .ok (.lload_n 3, 1) := by decide +kernel
theorem dX12_costOf_288 : decode cX12_costOf 288 = .ok (.aload_n 0, 1) := by decide +kernel
theorem dX12_costOf_289 : decode cX12_costOf 289 = .ok (.getfield 19, 3) := by decide +kernel
theorem dX12_costOf_292 : decode cX12_costOf 292 = .ok (.iload 8, 2) := by decide +kernel
theorem dX12_costOf_294 : decode cX12_costOf 294 = .ok (.iaload, 1) := by decide +kernel
theorem dX12_costOf_295 : decode cX12_costOf 295 = .ok (.i2l, 1) := by decide +kernel
theorem dX12_costOf_296 : decode cX12_costOf 296 = .ok (.ladd, 1) := by decide +kernel
theorem dX12_costOf_297 : decode cX12_costOf 297 = .ok (.lstore_n 3, 1) := by decide +kernel
theorem dX12_costOf_298 : decode cX12_costOf 298 = .ok (.iinc 7 1, 3) := by decide +kernel
theorem dX12_costOf_301 : decode cX12_costOf 301 = .ok (.goto (-93), 3) := by decide +kernel
theorem dX12_costOf_304 : decode cX12_costOf 304 = .ok (.iinc 6 1, 3) := by decide +kernel
theorem dX12_costOf_307 : decode cX12_costOf 307 = .ok (.goto (-114), 3) := by decide +kernel
theorem dX12_costOf_310 : decode cX12_costOf 310 = .ok (.lload_n 3, 1) := by decide +kernel
theorem dX12_costOf_311 : decode cX12_costOf 311 = .ok (.lreturn, 1) := by decide +kernel
theorem dX12_become_0 : decode cX12_become 0 = .ok (.iconst 0, 1) := by decide +kernel
theorem dX12_become_1 : decode cX12_become 1 = .ok (.istore_n 2, 1) := by decide +kernel
theorem dX12_become_2 : decode cX12_become 2 = .ok (.iload_n 2, 1) := by decide +kernel
theorem dX12_become_3 : decode cX12_become 3 = .ok (.aload_n 0, 1) := by decide +kernel
theorem dX12_become_4 : decode cX12_become 4 = .ok (.invokevirtual 90, 3) := by decide +kernel
theorem dX12_become_7 : decode cX12_become 7 = .ok (.if_icmp .ge 18, 3) := by decide +kernel
theorem dX12_become_10 : decode cX12_become 10 = .ok (.aload_n 0, 1) := by decide +kernel
theorem dX12_become_11 : decode cX12_become 11 = .ok (.getfield 26, 3) := by decide +kernel
theorem dX12_become_14 : decode cX12_become 14 = .ok (.iload_n 2, 1) := by decide +kernel
theorem dX12_become_15 : decode cX12_become 15 = .ok (.aload_n 1, 1) := by decide +kernel
theorem dX12_become_16 : decode cX12_become 16 = .ok (.iload_n 2, 1) := by decide +kernel
theorem dX12_become_17 : decode cX12_become 17 = .ok (.iaload, 1) := by decide +kernel
theorem dX12_become_18 : decode cX12_become 18 = .ok (.iastore, 1) := by decide +kernel
theorem dX12_become_19 : decode cX12_become 19 = .ok (.iinc 2 1, 3) := by decide +kernel
theorem dX12_become_22 : decode cX12_become 22 = .ok (.goto (-20), 3) := by decide +kernel
theorem dX12_become_25 : decode cX12_become 25 = .ok (.return_, 1) := by decide +kernel
theorem dX12_takeNow_0 : decode cX12_takeNow 0 = .ok (.iconst 0, 1) := by decide +kernel
theorem dX12_takeNow_1 : decode cX12_takeNow 1 = .ok (.istore_n 1, 1) := by decide +kernel
theorem dX12_takeNow_2 : decode cX12_takeNow 2 = .ok (.iload_n 1, 1) := by decide +kernel
theorem dX12_takeNow_3 : decode cX12_takeNow 3 = .ok (.aload_n 0, 1) := by decide +kernel
theorem dX12_takeNow_4 : decode cX12_takeNow 4 = .ok (.invokevirtual 90, 3) := by decide +kernel
theorem dX12_takeNow_7 : decode cX12_takeNow 7 = .ok (.if_icmp .ge 21, 3) := by decide +kernel
theorem dX12_takeNow_10 : decode cX12_takeNow 10 = .ok (.aload_n 0, 1) := by decide +kernel
theorem dX12_takeNow_11 : decode cX12_takeNow 11 = .ok (.getfield 58, 3) := by decide +kernel
theorem dX12_takeNow_14 : decode cX12_takeNow 14 = .ok (.iload_n 1, 1) := by decide +kernel
theorem dX12_takeNow_15 : decode cX12_takeNow 15 = .ok (.aload_n 0, 1) := by decide +kernel
theorem dX12_takeNow_16 : decode cX12_takeNow 16 = .ok (.getfield 26, 3) := by decide +kernel
theorem dX12_takeNow_19 : decode cX12_takeNow 19 = .ok (.iload_n 1, 1) := by decide +kernel
theorem dX12_takeNow_20 : decode cX12_takeNow 20 = .ok (.iaload, 1) := by decide +kernel
theorem dX12_takeNow_21 : decode cX12_takeNow 21 = .ok (.iastore, 1) := by decide +kernel
theorem dX12_takeNow_22 : decode cX12_takeNow 22 = .ok (.iinc 1 1, 3) := by decide +kernel
theorem dX12_takeNow_25 : decode cX12_takeNow 25 = .ok (.goto (-23), 3) := by decide +kernel
theorem dX12_takeNow_28 : decode cX12_takeNow 28 = .ok (.return_, 1) := by decide +kernel
theorem dX12_put_0 : decode cX12_put 0 = .ok (.aload_n 0, 1) := by decide +kernel
theorem dX12_put_1 : decode cX12_put 1 = .ok (.iconst 0, 1) := by decide +kernel
theorem dX12_put_2 : decode cX12_put 2 = .ok (.putfield 77, 3) := by decide +kernel
theorem dX12_put_5 : decode cX12_put 5 = .ok (.aload_n 0, 1) := by decide +kernel
theorem dX12_put_6 : decode cX12_put 6 = .ok (.iload_n 1, 1) := by decide +kernel
theorem dX12_put_7 : decode cX12_put 7 = .ok (.invokevirtual 94, 3) := by decide +kernel
theorem dX12_put_10 : decode cX12_put 10 = .ok (.ifCond .eq 19, 3) := by decide +kernel
theorem dX12_put_13 : decode cX12_put 13 = .ok (.iload_n 2, 1) := by decide +kernel
theorem dX12_put_14 : decode cX12_put 14 = .ok (.ifCond .lt 15, 3) := by decide +kernel
theorem dX12_put_17 : decode cX12_put 17 = .ok (.iload_n 2, 1) := by decide +kernel
theorem dX12_put_18 : decode cX12_put 18 = .ok (.aload_n 0, 1) := by decide +kernel
theorem dX12_put_19 : decode cX12_put 19 = .ok (.aload_n 0, 1) := by decide +kernel
theorem dX12_put_20 : decode cX12_put 20 = .ok (.getfield 26, 3) := by decide +kernel
theorem dX12_put_23 : decode cX12_put 23 = .ok (.invokevirtual 133, 3) := by decide +kernel
theorem dX12_put_26 : decode cX12_put 26 = .ok (.if_icmp .le 9, 3) := by decide +kernel
theorem dX12_put_29 : decode cX12_put 29 = .ok (.aload_n 0, 1) := by decide +kernel
theorem dX12_put_30 : decode cX12_put 30 = .ok (.iconst 1, 1) := by decide +kernel
theorem dX12_put_31 : decode cX12_put 31 = .ok (.invokevirtual 98, 3) := by decide +kernel
theorem dX12_put_34 : decode cX12_put 34 = .ok (.ireturn, 1) := by decide +kernel
theorem dX12_put_35 : decode cX12_put 35 = .ok (.aload_n 0, 1) := by decide +kernel
theorem dX12_put_36 : decode cX12_put 36 = .ok (.invokevirtual 102, 3) := by decide +kernel
theorem dX12_put_39 : decode cX12_put 39 = .ok (.aload_n 0, 1) := by decide +kernel
theorem dX12_put_40 : decode cX12_put 40 = .ok (.invokevirtual 144, 3) := by decide +kernel
theorem dX12_put_43 : decode cX12_put 43 = .ok (.aload_n 0, 1) := by decide +kernel
theorem dX12_put_44 : decode cX12_put 44 = .ok (.getfield 58, 3) := by decide +kernel
theorem dX12_put_47 : decode cX12_put 47 = .ok (.iload_n 1, 1) := by decide +kernel
theorem dX12_put_48 : decode cX12_put 48 = .ok (.iload_n 2, 1) := by decide +kernel
theorem dX12_put_49 : decode cX12_put 49 = .ok (.iastore, 1) := by decide +kernel
theorem dX12_put_50 : decode cX12_put 50 = .ok (.aload_n 0, 1) := by decide +kernel
theorem dX12_put_51 : decode cX12_put 51 = .ok (.aload_n 0, 1) := by decide +kernel
theorem dX12_put_52 : decode cX12_put 52 = .ok (.getfield 58, 3) := by decide +kernel
theorem dX12_put_55 : decode cX12_put 55 = .ok (.invokevirtual 147, 3) := by decide +kernel
theorem dX12_put_58 : decode cX12_put 58 = .ok (.istore_n 3, 1) := by decide +kernel
theorem dX12_put_59 : decode cX12_put 59 = .ok (.aload_n 0, 1) := by decide +kernel
theorem dX12_put_60 : decode cX12_put 60 = .ok (.aload_n 0, 1) := by decide +kernel
theorem dX12_put_61 : decode cX12_put 61 = .ok (.getfield 58, 3) := by decide +kernel
theorem dX12_put_64 : decode cX12_put 64 = .ok (.invokevirtual 150, 3) := by decide +kernel
theorem dX12_put_67 : decode cX12_put 67 = .ok (.iload_n 3, 1) := by decide +kernel
theorem dX12_put_68 : decode cX12_put 68 = .ok (.ireturn, 1) := by decide +kernel
theorem dX12_count_0 : decode cX12_count 0 = .ok (.aload_n 0, 1) := by decide +kernel
theorem dX12_count_1 : decode cX12_count 1 = .ok (.iconst 0, 1) := by decide +kernel
theorem dX12_count_2 : decode cX12_count 2 = .ok (.putfield 77, 3) := by decide +kernel
theorem dX12_count_5 : decode cX12_count 5 = .ok (.iload_n 1, 1) := by decide +kernel
theorem dX12_count_6 : decode cX12_count 6 = .ok (.tableswitch 84 0 5 #[38, 43, 52, 57, 62, 67], 38) := by decide +kernel
theorem dX12_count_44 : decode cX12_count 44 = .ok (.aload_n 0, 1) := by decide +kernel
theorem dX12_count_45 : decode cX12_count 45 = .ok (.invokevirtual 90, 3) := by decide +kernel
theorem dX12_count_48 : decode cX12_count 48 = .ok (.ireturn, 1) := by decide +kernel
theorem dX12_count_49 : decode cX12_count 49 = .ok (.aload_n 0, 1) := by decide +kernel
theorem dX12_count_50 : decode cX12_count 50 = .ok (.aload_n 0, 1) := by decide +kernel
theorem dX12_count_51 : decode cX12_count 51 = .ok (.getfield 26, 3) := by decide +kernel
theorem dX12_count_54 : decode cX12_count 54 = .ok (.invokevirtual 133, 3) := by decide +kernel
theorem dX12_count_57 : decode cX12_count 57 = .ok (.ireturn, 1) := by decide +kernel
theorem dX12_count_58 : decode cX12_count 58 = .ok (.aload_n 0, 1) := by decide +kernel
theorem dX12_count_59 : decode cX12_count 59 = .ok (.getfield 80, 3) := by decide +kernel
theorem dX12_count_62 : decode cX12_count 62 = .ok (.ireturn, 1) := by decide +kernel
theorem dX12_count_63 : decode cX12_count 63 = .ok (.aload_n 0, 1) := by decide +kernel
theorem dX12_count_64 : decode cX12_count 64 = .ok (.getfield 37, 3) := by decide +kernel
theorem dX12_count_67 : decode cX12_count 67 = .ok (.ireturn, 1) := by decide +kernel
theorem dX12_count_68 : decode cX12_count 68 = .ok (.aload_n 0, 1) := by decide +kernel
theorem dX12_count_69 : decode cX12_count 69 = .ok (.getfield 154, 3) := by decide +kernel
theorem dX12_count_72 : decode cX12_count 72 = .ok (.ireturn, 1) := by decide +kernel
theorem dX12_count_73 : decode cX12_count 73 = .ok (.aload_n 0, 1) := by decide +kernel
theorem dX12_count_74 : decode cX12_count 74 = .ok (.getfield 29, 3) := by decide +kernel
theorem dX12_count_77 : decode cX12_count 77 = .ok (.iconst (-1), 1) := by decide +kernel
theorem dX12_count_78 : decode cX12_count 78 = .ok (.if_icmp .ne 7, 3) := by decide +kernel
theorem dX12_count_81 : decode cX12_count 81 = .ok (.iconst (-1), 1) := by decide +kernel
theorem dX12_count_82 : decode cX12_count 82 = .ok (.goto 7, 3) := by decide +kernel
theorem dX12_count_85 : decode cX12_count 85 = .ok (.aload_n 0, 1) := by decide +kernel
theorem dX12_count_86 : decode cX12_count 86 = .ok (.getfield 113, 3) := by decide +kernel
theorem dX12_count_89 : decode cX12_count 89 = .ok (.ireturn, 1) := by decide +kernel
theorem dX12_count_90 : decode cX12_count 90 = .ok (.aload_n 0, 1) := by decide +kernel
theorem dX12_count_91 : decode cX12_count 91 = .ok (.iconst 1, 1) := by decide +kernel
theorem dX12_count_92 : decode cX12_count 92 = .ok (.invokevirtual 98, 3) := by decide +kernel
theorem dX12_count_95 : decode cX12_count 95 = .ok (.ireturn, 1) := by decide +kernel
theorem dX12_heap_0 : decode cX12_heap 0 = .ok (.aload_n 0, 1) := by decide +kernel
theorem dX12_heap_1 : decode cX12_heap 1 = .ok (.iconst 0, 1) := by decide +kernel
theorem dX12_heap_2 : decode cX12_heap 2 = .ok (.putfield 77, 3) := by decide +kernel
theorem dX12_heap_5 : decode cX12_heap 5 = .ok (.aload_n 0, 1) := by decide +kernel
theorem dX12_heap_6 : decode cX12_heap 6 = .ok (.iload_n 1, 1) := by decide +kernel
theorem dX12_heap_7 : decode cX12_heap 7 = .ok (.invokevirtual 94, 3) := by decide +kernel
theorem dX12_heap_10 : decode cX12_heap 10 = .ok (.ifCond .eq 12, 3) := by decide +kernel
theorem dX12_heap_13 : decode cX12_heap 13 = .ok (.aload_n 0, 1) := by decide +kernel
theorem dX12_heap_14 : decode cX12_heap 14 = .ok (.getfield 26, 3) := by decide +kernel
theorem dX12_heap_17 : decode cX12_heap 17 = .ok (.iload_n 1, 1) := by decide +kernel
theorem dX12_heap_18 : decode cX12_heap 18 = .ok (.iaload, 1) := by decide +kernel
theorem dX12_heap_19 : decode cX12_heap 19 = .ok (.goto 8, 3) := by decide +kernel
theorem dX12_heap_22 : decode cX12_heap 22 = .ok (.aload_n 0, 1) := by decide +kernel
theorem dX12_heap_23 : decode cX12_heap 23 = .ok (.iconst 1, 1) := by decide +kernel
theorem dX12_heap_24 : decode cX12_heap 24 = .ok (.invokevirtual 98, 3) := by decide +kernel
theorem dX12_heap_27 : decode cX12_heap 27 = .ok (.ireturn, 1) := by decide +kernel
theorem dX12_pair_0 : decode cX12_pair 0 = .ok (.aload_n 0, 1) := by decide +kernel
theorem dX12_pair_1 : decode cX12_pair 1 = .ok (.iconst 0, 1) := by decide +kernel
theorem dX12_pair_2 : decode cX12_pair 2 = .ok (.putfield 77, 3) := by decide +kernel
theorem dX12_pair_5 : decode cX12_pair 5 = .ok (.aload_n 0, 1) := by decide +kernel
theorem dX12_pair_6 : decode cX12_pair 6 = .ok (.iload_n 1, 1) := by decide +kernel
theorem dX12_pair_7 : decode cX12_pair 7 = .ok (.invokevirtual 94, 3) := by decide +kernel
theorem dX12_pair_10 : decode cX12_pair 10 = .ok (.ifCond .eq 20, 3) := by decide +kernel
theorem dX12_pair_13 : decode cX12_pair 13 = .ok (.aload_n 0, 1) := by decide +kernel
theorem dX12_pair_14 : decode cX12_pair 14 = .ok (.iload_n 2, 1) := by decide +kernel
theorem dX12_pair_15 : decode cX12_pair 15 = .ok (.invokevirtual 94, 3) := by decide +kernel
theorem dX12_pair_18 : decode cX12_pair 18 = .ok (.ifCond .eq 12, 3) := by decide +kernel
theorem dX12_pair_21 : decode cX12_pair 21 = .ok (.iload_n 3, 1) := by decide +kernel
theorem dX12_pair_22 : decode cX12_pair 22 = .ok (.ifCond .lt 8, 3) := by decide +kernel
theorem dX12_pair_25 : decode cX12_pair 25 = .ok (.iload_n 3, 1) := by decide +kernel
theorem dX12_pair_26 : decode cX12_pair 26 = .ok (.iconst 2, 1) := by decide +kernel
theorem dX12_pair_27 : decode cX12_pair 27 = .ok (.if_icmp .le 9, 3) := by decide +kernel
theorem dX12_pair_30 : decode cX12_pair 30 = .ok (.aload_n 0, 1) := by decide +kernel
theorem dX12_pair_31 : decode cX12_pair 31 = .ok (.iconst 1, 1) := by decide +kernel
theorem dX12_pair_32 : decode cX12_pair 32 = .ok (.invokevirtual 98, 3) := by decide +kernel
theorem dX12_pair_35 : decode cX12_pair 35 = .ok (.ireturn, 1) := by decide +kernel
theorem dX12_pair_36 : decode cX12_pair 36 = .ok (.bipush 12, 2) := by decide +kernel
theorem dX12_pair_38 : decode cX12_pair 38 = .ok (.iload_n 1, 1) := by decide +kernel
theorem dX12_pair_39 : decode cX12_pair 39 = .ok (.imul, 1) := by decide +kernel
theorem dX12_pair_40 : decode cX12_pair 40 = .ok (.iload_n 2, 1) := by decide +kernel
theorem dX12_pair_41 : decode cX12_pair 41 = .ok (.iadd, 1) := by decide +kernel
theorem dX12_pair_42 : decode cX12_pair 42 = .ok (.istore 4, 2) := by decide +kernel
theorem dX12_pair_44 : decode cX12_pair 44 = .ok (.iload_n 1, 1) := by decide +kernel
theorem dX12_pair_45 : decode cX12_pair 45 = .ok (.iload_n 2, 1) := by decide +kernel
theorem dX12_pair_46 : decode cX12_pair 46 = .ok (.if_icmp .ne 7, 3) := by decide +kernel
theorem dX12_pair_49 : decode cX12_pair 49 = .ok (.iconst 0, 1) := by decide +kernel
theorem dX12_pair_50 : decode cX12_pair 50 = .ok (.goto 47, 3) := by decide +kernel
theorem dX12_pair_53 : decode cX12_pair 53 = .ok (.iload_n 3, 1) := by decide +kernel
theorem dX12_pair_54 : decode cX12_pair 54 = .ok (.ifCond .ne 13, 3) := by decide +kernel
theorem dX12_pair_57 : decode cX12_pair 57 = .ok (.aload_n 0, 1) := by decide +kernel
theorem dX12_pair_58 : decode cX12_pair 58 = .ok (.getfield 16, 3) := by decide +kernel
theorem dX12_pair_61 : decode cX12_pair 61 = .ok (.iload 4, 2) := by decide +kernel
theorem dX12_pair_63 : decode cX12_pair 63 = .ok (.iaload, 1) := by decide +kernel
theorem dX12_pair_64 : decode cX12_pair 64 = .ok (.goto 33, 3) := by decide +kernel
theorem dX12_pair_67 : decode cX12_pair 67 = .ok (.iload_n 3, 1) := by decide +kernel
theorem dX12_pair_68 : decode cX12_pair 68 = .ok (.iconst 1, 1) := by decide +kernel
theorem dX12_pair_69 : decode cX12_pair 69 = .ok (.if_icmp .ne 13, 3) := by decide +kernel
theorem dX12_pair_72 : decode cX12_pair 72 = .ok (.aload_n 0, 1) := by decide +kernel
theorem dX12_pair_73 : decode cX12_pair 73 = .ok (.getfield 19, 3) := by decide +kernel
theorem dX12_pair_76 : decode cX12_pair 76 = .ok (.iload 4, 2) := by decide +kernel
theorem dX12_pair_78 : decode cX12_pair 78 = .ok (.iaload, 1) := by decide +kernel
theorem dX12_pair_79 : decode cX12_pair 79 = .ok (.goto 18, 3) := by decide +kernel
theorem dX12_pair_82 : decode cX12_pair 82 = .ok (.aload_n 0, 1) := by decide +kernel
theorem dX12_pair_83 : decode cX12_pair 83 = .ok (.getfield 22, 3) := by decide +kernel
theorem dX12_pair_86 : decode cX12_pair 86 = .ok (.iload 4, 2) := by decide +kernel
theorem dX12_pair_88 : decode cX12_pair 88 = .ok (.baload, 1) := by decide +kernel
theorem dX12_pair_89 : decode cX12_pair 89 = .ok (.ifCond .eq 7, 3) := by decide +kernel
theorem dX12_pair_92 : decode cX12_pair 92 = .ok (.iconst 1, 1) := by decide +kernel
theorem dX12_pair_93 : decode cX12_pair 93 = .ok (.goto 4, 3) := by decide +kernel
theorem dX12_pair_96 : decode cX12_pair 96 = .ok (.iconst 0, 1) := by decide +kernel
theorem dX12_pair_97 : decode cX12_pair 97 = .ok (.ireturn, 1) := by decide +kernel
theorem dX12_isGoal_0 : decode cX12_isGoal 0 = .ok (.iload_n 0, 1) := by decide +kernel
theorem dX12_isGoal_1 : decode cX12_isGoal 1 = .ok (.ifCond .lt 12, 3) := by decide +kernel
theorem dX12_isGoal_4 : decode cX12_isGoal 4 = .ok (.iload_n 0, 1) := by decide +kernel
theorem dX12_isGoal_5 : decode cX12_isGoal 5 = .ok (.iconst 4, 1) := by decide +kernel
theorem dX12_isGoal_6 : decode cX12_isGoal 6 = .ok (.if_icmp .ge 7, 3) := by decide +kernel
theorem dX12_isGoal_9 : decode cX12_isGoal 9 = .ok (.iconst 1, 1) := by decide +kernel
theorem dX12_isGoal_10 : decode cX12_isGoal 10 = .ok (.goto 4, 3) := by decide +kernel
theorem dX12_isGoal_13 : decode cX12_isGoal 13 = .ok (.iconst 0, 1) := by decide +kernel
theorem dX12_isGoal_14 : decode cX12_isGoal 14 = .ok (.ireturn, 1) := by decide +kernel
theorem dX12_cost_0 : decode cX12_cost 0 = .ok (.aload_n 0, 1) := by decide +kernel
theorem dX12_cost_1 : decode cX12_cost 1 = .ok (.iconst 0, 1) := by decide +kernel
theorem dX12_cost_2 : decode cX12_cost 2 = .ok (.putfield 77, 3) := by decide +kernel
theorem dX12_cost_5 : decode cX12_cost 5 = .ok (.iload_n 1, 1) := by decide +kernel
theorem dX12_cost_6 : decode cX12_cost 6 = .ok (.invokestatic 157, 3) := by decide +kernel
theorem dX12_cost_9 : decode cX12_cost 9 = .ok (.ifCond .ne 10, 3) := by decide +kernel
theorem dX12_cost_12 : decode cX12_cost 12 = .ok (.aload_n 0, 1) := by decide +kernel
theorem dX12_cost_13 : decode cX12_cost 13 = .ok (.iconst 1, 1) := by decide +kernel
theorem dX12_cost_14 : decode cX12_cost 14 = .ok (.invokevirtual 98, 3) := by decide +kernel
theorem dX12_cost_17 : decode cX12_cost 17 = .ok (.i2l, 1) := by decide +kernel
theorem dX12_cost_18 : decode cX12_cost 18 = .ok (.lreturn, 1) := by decide +kernel
theorem dX12_cost_19 : decode cX12_cost 19 = .ok (.aload_n 0, 1) := by decide +kernel
theorem dX12_cost_20 : decode cX12_cost 20 = .ok (.invokevirtual 160, 3) := by decide +kernel
theorem dX12_cost_23 : decode cX12_cost 23 = .ok (.aload_n 0, 1) := by decide +kernel
theorem dX12_cost_24 : decode cX12_cost 24 = .ok (.aload_n 0, 1) := by decide +kernel
theorem dX12_cost_25 : decode cX12_cost 25 = .ok (.getfield 26, 3) := by decide +kernel
theorem dX12_cost_28 : decode cX12_cost 28 = .ok (.iload_n 1, 1) := by decide +kernel
theorem dX12_cost_29 : decode cX12_cost 29 = .ok (.invokevirtual 163, 3) := by decide +kernel
theorem dX12_cost_32 : decode cX12_cost 32 = .ok (.lreturn, 1) := by decide +kernel
theorem dX12_middle_0 : decode cX12_middle 0 = .ok (.aload_n 0, 1) := by decide +kernel
theorem dX12_middle_1 : decode cX12_middle 1 = .ok (.iconst 0, 1) := by decide +kernel
theorem dX12_middle_2 : decode cX12_middle 2 = .ok (.putfield 77, 3) := by decide +kernel
theorem dX12_middle_5 : decode cX12_middle 5 = .ok (.iload_n 1, 1) := by decide +kernel
theorem dX12_middle_6 : decode cX12_middle 6 = .ok (.ifCond .lt 15, 3) := by decide +kernel
theorem dX12_middle_9 : decode cX12_middle 9 = .ok (.iload_n 1, 1) := by decide +kernel
theorem dX12_middle_10 : decode cX12_middle 10 = .ok (.aload_n 0, 1) := by decide +kernel
theorem dX12_middle_11 : decode cX12_middle 11 = .ok (.aload_n 0, 1) := by decide +kernel
theorem dX12_middle_12 : decode cX12_middle 12 = .ok (.getfield 26, 3) := by decide +kernel
theorem dX12_middle_15 : decode cX12_middle 15 = .ok (.invokevirtual 133, 3) := by decide +kernel
theorem dX12_middle_18 : decode cX12_middle 18 = .ok (.if_icmp .lt 9, 3) := by decide +kernel
theorem dX12_middle_21 : decode cX12_middle 21 = .ok (.aload_n 0, 1) := by decide +kernel
theorem dX12_middle_22 : decode cX12_middle 22 = .ok (.iconst 1, 1) := by decide +kernel
theorem dX12_middle_23 : decode cX12_middle 23 = .ok (.invokevirtual 98, 3) := by decide +kernel
theorem dX12_middle_26 : decode cX12_middle 26 = .ok (.ireturn, 1) := by decide +kernel
theorem dX12_middle_27 : decode cX12_middle 27 = .ok (.aload_n 0, 1) := by decide +kernel
theorem dX12_middle_28 : decode cX12_middle 28 = .ok (.invokevirtual 160, 3) := by decide +kernel
theorem dX12_middle_31 : decode cX12_middle 31 = .ok (.aload_n 0, 1) := by decide +kernel
theorem dX12_middle_32 : decode cX12_middle 32 = .ok (.aload_n 0, 1) := by decide +kernel
theorem dX12_middle_33 : decode cX12_middle 33 = .ok (.getfield 26, 3) := by decide +kernel
theorem dX12_middle_36 : decode cX12_middle 36 = .ok (.iload_n 1, 1) := by decide +kernel
theorem dX12_middle_37 : decode cX12_middle 37 = .ok (.invokevirtual 137, 3) := by decide +kernel
theorem dX12_middle_40 : decode cX12_middle 40 = .ok (.ireturn, 1) := by decide +kernel
theorem dX12_search_0 : decode cX12_search 0 = .ok (.iconst 0, 1) := by decide +kernel
theorem dX12_search_1 : decode cX12_search 1 = .ok (.istore 4, 2) := by decide +kernel
theorem dX12_search_3 : decode cX12_search 3 = .ok (.iload 4, 2) := by decide +kernel
theorem dX12_search_5 : decode cX12_search 5 = .ok (.aload_n 0, 1) := by decide +kernel
theorem dX12_search_6 : decode cX12_search 6 = .ok (.invokevirtual 90, 3) := by decide +kernel
theorem dX12_search_9 : decode cX12_search 9 = .ok (.if_icmp .ge 17, 3) := by decide +kernel
theorem dX12_search_12 : decode cX12_search 12 = .ok (.aload_n 0, 1) := by decide +kernel
theorem dX12_search_13 : decode cX12_search 13 = .ok (.getfield 58, 3) := by decide +kernel
theorem dX12_search_16 : decode cX12_search 16 = .ok (.iload 4, 2) := by decide +kernel
theorem dX12_search_18 : decode cX12_search 18 = .ok (.iconst 0, 1) := by decide +kernel
theorem dX12_search_19 : decode cX12_search 19 = .ok (.iastore, 1) := by decide +kernel
theorem dX12_search_20 : decode cX12_search 20 = .ok (.iinc 4 1, 3) := by decide +kernel
theorem dX12_search_23 : decode cX12_search 23 = .ok (.goto (-20), 3) := by decide +kernel
theorem dX12_search_26 : decode cX12_search 26 = .ok (.ldc2_w 167, 3) := by decide +kernel
theorem dX12_search_29 : decode cX12_search 29 = .ok (.lstore 4, 2) := by decide +kernel
theorem dX12_search_31 : decode cX12_search 31 = .ok (.iconst 1, 1) := by decide +kernel
theorem dX12_search_32 : decode cX12_search 32 = .ok (.istore 6, 2) := by decide +kernel
theorem dX12_search_34 : decode cX12_search 34 = .ok (.iload 6, 2) := by decide +kernel
theorem dX12_search_36 : decode cX12_search 36 = .ok (.ifCond .eq 96, 3) := by decide +kernel
theorem dX12_search_39 : decode cX12_search 39 = .ok (.aload_n 0, 1) := by decide +kernel
theorem dX12_search_40 : decode cX12_search 40 = .ok (.aload_n 0, 1) := by decide +kernel
theorem dX12_search_41 : decode cX12_search 41 = .ok (.getfield 58, 3) := by decide +kernel
theorem dX12_search_44 : decode cX12_search 44 = .ok (.invokevirtual 133, 3) := by decide +kernel
theorem dX12_search_47 : decode cX12_search 47 = .ok (.istore 7, 2) := by decide +kernel
theorem dX12_search_49 : decode cX12_search 49 = .ok (.iload 7, 2) := by decide +kernel
theorem dX12_search_51 : decode cX12_search 51 = .ok (.iload_n 2, 1) := by decide +kernel
theorem dX12_search_52 : decode cX12_search 52 = .ok (.if_icmp .lt 71, 3) := by decide +kernel
theorem dX12_search_55 : decode cX12_search 55 = .ok (.iload 7, 2) := by decide +kernel
theorem dX12_search_57 : decode cX12_search 57 = .ok (.iload_n 3, 1) := by decide +kernel
theorem dX12_search_58 : decode cX12_search 58 = .ok (.if_icmp .gt 65, 3) := by decide +kernel
theorem dX12_search_61 : decode cX12_search 61 = .ok (.aload_n 0, 1) := by decide +kernel
theorem dX12_search_62 : decode cX12_search 62 = .ok (.aload_n 0, 1) := by decide +kernel
theorem dX12_search_63 : decode cX12_search 63 = .ok (.getfield 58, 3) := by decide +kernel
theorem dX12_search_66 : decode cX12_search 66 = .ok (.iload_n 1, 1) := by decide +kernel
theorem dX12_search_67 : decode cX12_search 67 = .ok (.invokevirtual 163, 3) := by decide +kernel
theorem dX12_search_70 : decode cX12_search 70 = .ok (.lstore 8, 2) := by decide +kernel
theorem dX12_search_72 : decode cX12_search 72 = .ok (.lload 4, 2) := by decide +kernel
theorem dX12_search_74 : decode cX12_search 74 = .ok (.lconst 0, 1) := by decide +kernel
theorem dX12_search_75 : decode cX12_search 75 = .ok (.lcmp, 1) := by decide +kernel
theorem dX12_search_76 : decode cX12_search 76 = .ok (.ifCond .lt 11, 3) := by decide +kernel
theorem dX12_search_79 : decode cX12_search 79 = .ok (.lload 8, 2) := by decide +kernel
theorem dX12_search_81 : decode cX12_search 81 = .ok (.lload 4, 2) := by decide +kernel
theorem dX12_search_83 : decode cX12_search 83 = .ok (.lcmp, 1) := by decide +kernel
theorem dX12_search_84 : decode cX12_search 84 = .ok (.ifCond .ge 39, 3) := by decide +kernel
theorem dX12_search_87 : decode cX12_search 87 = .ok (.lload 8, 2) := by decide +kernel
theorem dX12_search_89 : decode cX12_search 89 = .ok (.lstore 4, 2) := by decide +kernel
theorem dX12_search_91 : decode cX12_search 91 = .ok (.iconst 0, 1) := by decide +kernel
theorem dX12_search_92 : decode cX12_search 92 = .ok (.istore 10, 2) := by decide +kernel
theorem dX12_search_94 : decode cX12_search 94 = .ok (.iload 10, 2) := by decide +kernel
theorem dX12_search_96 : decode cX12_search 96 = .ok (.aload_n 0, 1) := by decide +kernel
theorem dX12_search_97 : decode cX12_search 97 = .ok (.invokevirtual 90, 3) := by decide +kernel
theorem dX12_search_100 : decode cX12_search 100 = .ok (.if_icmp .ge 23, 3) := by decide +kernel
theorem dX12_search_103 : decode cX12_search 103 = .ok (.aload_n 0, 1) := by decide +kernel
theorem dX12_search_104 : decode cX12_search 104 = .ok (.getfield 61, 3) := by decide +kernel
theorem dX12_search_107 : decode cX12_search 107 = .ok (.iload 10, 2) := by decide +kernel
theorem dX12_search_109 : decode cX12_search 109 = .ok (.aload_n 0, 1) := by decide +kernel
theorem dX12_search_110 : decode cX12_search 110 = .ok (.getfield 58, 3) := by decide +kernel
theorem dX12_search_113 : decode cX12_search 113 = .ok (.iload 10, 2) := by decide +kernel
theorem dX12_search_115 : decode cX12_search 115 = .ok (.iaload, 1) := by decide +kernel
theorem dX12_search_116 : decode cX12_search 116 = .ok (.iastore, 1) := by decide +kernel
theorem dX12_search_117 : decode cX12_search 117 = .ok (.iinc 10 1, 3) := by decide +kernel
theorem dX12_search_120 : decode cX12_search 120 = .ok (.goto (-26), 3) := by decide +kernel
theorem dX12_search_123 : decode cX12_search 123 = .ok (.aload_n 0, 1) := by decide +kernel
theorem dX12_search_124 : decode cX12_search 124 = .ok (.invokevirtual 169, 3) := by decide +kernel
theorem dX12_search_127 : decode cX12_search 127 = .ok (.istore 6, 2) := by decide +kernel
theorem dX12_search_129 : decode cX12_search 129 = .ok (.goto (-95), 3) := by decide +kernel
theorem dX12_search_132 : decode cX12_search 132 = .ok (.lload 4, 2) := by decide +kernel
theorem dX12_search_134 : decode cX12_search 134 = .ok (.lreturn, 1) := by decide +kernel
theorem dX12_best_0 : decode cX12_best 0 = .ok (.aload_n 0, 1) := by decide +kernel
theorem dX12_best_1 : decode cX12_best 1 = .ok (.iconst 0, 1) := by decide +kernel
theorem dX12_best_2 : decode cX12_best 2 = .ok (.putfield 77, 3) := by decide +kernel
theorem dX12_best_5 : decode cX12_best 5 = .ok (.iload_n 1, 1) := by decide +kernel
theorem dX12_best_6 : decode cX12_best 6 = .ok (.invokestatic 157, 3) := by decide +kernel
theorem dX12_best_9 : decode cX12_best 9 = .ok (.ifCond .eq 15, 3) := by decide +kernel
theorem dX12_best_12 : decode cX12_best 12 = .ok (.iload_n 2, 1) := by decide +kernel
theorem dX12_best_13 : decode cX12_best 13 = .ok (.ifCond .lt 11, 3) := by decide +kernel
theorem dX12_best_16 : decode cX12_best 16 = .ok (.iload_n 2, 1) := by decide +kernel
theorem dX12_best_17 : decode cX12_best 17 = .ok (.aload_n 0, 1) := by decide +kernel
theorem dX12_best_18 : decode cX12_best 18 = .ok (.invokevirtual 90, 3) := by decide +kernel
theorem dX12_best_21 : decode cX12_best 21 = .ok (.if_icmp .le 10, 3) := by decide +kernel
theorem dX12_best_24 : decode cX12_best 24 = .ok (.aload_n 0, 1) := by decide +kernel
theorem dX12_best_25 : decode cX12_best 25 = .ok (.iconst 1, 1) := by decide +kernel
theorem dX12_best_26 : decode cX12_best 26 = .ok (.invokevirtual 98, 3) := by decide +kernel
theorem dX12_best_29 : decode cX12_best 29 = .ok (.i2l, 1) := by decide +kernel
theorem dX12_best_30 : decode cX12_best 30 = .ok (.lreturn, 1) := by decide +kernel
theorem dX12_best_31 : decode cX12_best 31 = .ok (.aload_n 0, 1) := by decide +kernel
theorem dX12_best_32 : decode cX12_best 32 = .ok (.invokevirtual 90, 3) := by decide +kernel
theorem dX12_best_35 : decode cX12_best 35 = .ok (.bipush 9, 2) := by decide +kernel
theorem dX12_best_37 : decode cX12_best 37 = .ok (.if_icmp .le 10, 3) := by decide +kernel
theorem dX12_best_40 : decode cX12_best 40 = .ok (.aload_n 0, 1) := by decide +kernel
theorem dX12_best_41 : decode cX12_best 41 = .ok (.iconst 3, 1) := by decide +kernel
theorem dX12_best_42 : decode cX12_best 42 = .ok (.invokevirtual 98, 3) := by decide +kernel
theorem dX12_best_45 : decode cX12_best 45 = .ok (.i2l, 1) := by decide +kernel
theorem dX12_best_46 : decode cX12_best 46 = .ok (.lreturn, 1) := by decide +kernel
theorem dX12_best_47 : decode cX12_best 47 = .ok (.aload_n 0, 1) := by decide +kernel
theorem dX12_best_48 : decode cX12_best 48 = .ok (.invokevirtual 102, 3) := by decide +kernel
theorem dX12_best_51 : decode cX12_best 51 = .ok (.aload_n 0, 1) := by decide +kernel
theorem dX12_best_52 : decode cX12_best 52 = .ok (.invokevirtual 160, 3) := by decide +kernel
theorem dX12_best_55 : decode cX12_best 55 = .ok (.aload_n 0, 1) := by decide +kernel
theorem dX12_best_56 : decode cX12_best 56 = .ok (.iload_n 1, 1) := by decide +kernel
theorem dX12_best_57 : decode cX12_best 57 = .ok (.iload_n 2, 1) := by decide +kernel
theorem dX12_best_58 : decode cX12_best 58 = .ok (.ifCond .ne 7, 3) := by decide +kernel
theorem dX12_best_61 : decode cX12_best 61 = .ok (.iconst 1, 1) := by decide +kernel
theorem dX12_best_62 : decode cX12_best 62 = .ok (.goto 4, 3) := by decide +kernel
theorem dX12_best_65 : decode cX12_best 65 = .ok (.iload_n 2, 1) := by decide +kernel
theorem dX12_best_66 : decode cX12_best 66 = .ok (.iload_n 2, 1) := by decide +kernel
theorem dX12_best_67 : decode cX12_best 67 = .ok (.ifCond .ne 10, 3) := by decide +kernel
theorem dX12_best_70 : decode cX12_best 70 = .ok (.aload_n 0, 1) := by decide +kernel
theorem dX12_best_71 : decode cX12_best 71 = .ok (.invokevirtual 90, 3) := by decide +kernel
theorem dX12_best_74 : decode cX12_best 74 = .ok (.goto 4, 3) := by decide +kernel
theorem dX12_best_77 : decode cX12_best 77 = .ok (.iload_n 2, 1) := by decide +kernel
theorem dX12_best_78 : decode cX12_best 78 = .ok (.invokevirtual 173, 3) := by decide +kernel
theorem dX12_best_81 : decode cX12_best 81 = .ok (.lstore_n 3, 1) := by decide +kernel
theorem dX12_best_82 : decode cX12_best 82 = .ok (.aload_n 0, 1) := by decide +kernel
theorem dX12_best_83 : decode cX12_best 83 = .ok (.aload_n 0, 1) := by decide +kernel
theorem dX12_best_84 : decode cX12_best 84 = .ok (.getfield 61, 3) := by decide +kernel
theorem dX12_best_87 : decode cX12_best 87 = .ok (.invokevirtual 150, 3) := by decide +kernel
theorem dX12_best_90 : decode cX12_best 90 = .ok (.lload_n 3, 1) := by decide +kernel
theorem dX12_best_91 : decode cX12_best 91 = .ok (.lreturn, 1) := by decide +kernel
theorem dX12_line_0 : decode cX12_line 0 = .ok (.aload_n 0, 1) := by decide +kernel
theorem dX12_line_1 : decode cX12_line 1 = .ok (.iconst 0, 1) := by decide +kernel
theorem dX12_line_2 : decode cX12_line 2 = .ok (.putfield 77, 3) := by decide +kernel
theorem dX12_line_5 : decode cX12_line 5 = .ok (.iload_n 1, 1) := by decide +kernel
theorem dX12_line_6 : decode cX12_line 6 = .ok (.ifCond .lt 21, 3) := by decide +kernel
theorem dX12_line_9 : decode cX12_line 9 = .ok (.iload_n 1, 1) := by decide +kernel
theorem dX12_line_10 : decode cX12_line 10 = .ok (.iconst 2, 1) := by decide +kernel
theorem dX12_line_11 : decode cX12_line 11 = .ok (.if_icmp .gt 16, 3) := by decide +kernel
theorem dX12_line_14 : decode cX12_line 14 = .ok (.iload_n 2, 1) := by decide +kernel
theorem dX12_line_15 : decode cX12_line 15 = .ok (.iconst 1, 1) := by decide +kernel
theorem dX12_line_16 : decode cX12_line 16 = .ok (.if_icmp .lt 11, 3) := by decide +kernel
theorem dX12_line_19 : decode cX12_line 19 = .ok (.iload_n 2, 1) := by decide +kernel
theorem dX12_line_20 : decode cX12_line 20 = .ok (.aload_n 0, 1) := by decide +kernel
theorem dX12_line_21 : decode cX12_line 21 = .ok (.invokevirtual 90, 3) := by decide +kernel
theorem dX12_line_24 : decode cX12_line 24 = .ok (.if_icmp .le 10, 3) := by decide +kernel
theorem dX12_line_27 : decode cX12_line 27 = .ok (.aload_n 0, 1) := by decide +kernel
theorem dX12_line_28 : decode cX12_line 28 = .ok (.iconst 1, 1) := by decide +kernel
theorem dX12_line_29 : decode cX12_line 29 = .ok (.invokevirtual 98, 3) := by decide +kernel
theorem dX12_line_32 : decode cX12_line 32 = .ok (.i2l, 1) := by decide +kernel
theorem dX12_line_33 : decode cX12_line 33 = .ok (.lreturn, 1) := by decide +kernel
theorem dX12_line_34 : decode cX12_line 34 = .ok (.aload_n 0, 1) := by decide +kernel
theorem dX12_line_35 : decode cX12_line 35 = .ok (.invokevirtual 102, 3) := by decide +kernel
theorem dX12_line_38 : decode cX12_line 38 = .ok (.iconst 0, 1) := by decide +kernel
theorem dX12_line_39 : decode cX12_line 39 = .ok (.istore_n 3, 1) := by decide +kernel
theorem dX12_line_40 : decode cX12_line 40 = .ok (.iload_n 3, 1) := by decide +kernel
theorem dX12_line_41 : decode cX12_line 41 = .ok (.aload_n 0, 1) := by decide +kernel
theorem dX12_line_42 : decode cX12_line 42 = .ok (.invokevirtual 90, 3) := by decide +kernel
theorem dX12_line_45 : decode cX12_line 45 = .ok (.if_icmp .ge 60, 3) := by decide +kernel
theorem dX12_line_48 : decode cX12_line 48 = .ok (.iconst 0, 1) := by decide +kernel
theorem dX12_line_49 : decode cX12_line 49 = .ok (.istore 4, 2) := by decide +kernel
theorem dX12_line_51 : decode cX12_line 51 = .ok (.iload 4, 2) := by decide +kernel
theorem dX12_line_53 : decode cX12_line 53 = .ok (.aload_n 0, 1) := by decide +kernel
theorem dX12_line_54 : decode cX12_line 54 = .ok (.invokevirtual 90, 3) := by decide +kernel
theorem dX12_line_57 : decode cX12_line 57 = .ok (.if_icmp .ge 42, 3) := by decide +kernel
theorem dX12_line_60 : decode cX12_line 60 = .ok (.aload_n 0, 1) := by decide +kernel
theorem dX12_line_61 : decode cX12_line 61 = .ok (.getfield 67, 3) := by decide +kernel
theorem dX12_line_64 : decode cX12_line 64 = .ok (.bipush 12, 2) := by decide +kernel
theorem dX12_line_66 : decode cX12_line 66 = .ok (.iload_n 3, 1) := by decide +kernel
theorem dX12_line_67 : decode cX12_line 67 = .ok (.imul, 1) := by decide +kernel
theorem dX12_line_68 : decode cX12_line 68 = .ok (.iload 4, 2) := by decide +kernel
theorem dX12_line_70 : decode cX12_line 70 = .ok (.iadd, 1) := by decide +kernel
theorem dX12_line_71 : decode cX12_line 71 = .ok (.aload_n 0, 1) := by decide +kernel
theorem dX12_line_72 : decode cX12_line 72 = .ok (.getfield 13, 3) := by decide +kernel
theorem dX12_line_75 : decode cX12_line 75 = .ok (.iconst 4, 1) := by decide +kernel
theorem dX12_line_76 : decode cX12_line 76 = .ok (.iload_n 3, 1) := by decide +kernel
theorem dX12_line_77 : decode cX12_line 77 = .ok (.imul, 1) := by decide +kernel
theorem dX12_line_78 : decode cX12_line 78 = .ok (.iaload, 1) := by decide +kernel
theorem dX12_line_79 : decode cX12_line 79 = .ok (.aload_n 0, 1) := by decide +kernel
theorem dX12_line_80 : decode cX12_line 80 = .ok (.getfield 13, 3) := by decide +kernel
theorem dX12_line_83 : decode cX12_line 83 = .ok (.iconst 4, 1) := by decide +kernel
theorem dX12_line_84 : decode cX12_line 84 = .ok (.iload 4, 2) := by decide +kernel
theorem dX12_line_86 : decode cX12_line 86 = .ok (.imul, 1) := by decide +kernel
theorem dX12_line_87 : decode cX12_line 87 = .ok (.iaload, 1) := by decide +kernel
theorem dX12_line_88 : decode cX12_line 88 = .ok (.isub, 1) := by decide +kernel
theorem dX12_line_89 : decode cX12_line 89 = .ok (.invokestatic 120, 3) := by decide +kernel
theorem dX12_line_92 : decode cX12_line 92 = .ok (.iastore, 1) := by decide +kernel
theorem dX12_line_93 : decode cX12_line 93 = .ok (.iinc 4 1, 3) := by decide +kernel
theorem dX12_line_96 : decode cX12_line 96 = .ok (.goto (-45), 3) := by decide +kernel
theorem dX12_line_99 : decode cX12_line 99 = .ok (.iinc 3 1, 3) := by decide +kernel
theorem dX12_line_102 : decode cX12_line 102 = .ok (.goto (-62), 3) := by decide +kernel
theorem dX12_line_105 : decode cX12_line 105 = .ok (.iconst 0, 1) := by decide +kernel
theorem dX12_line_106 : decode cX12_line 106 = .ok (.istore_n 3, 1) := by decide +kernel
theorem dX12_line_107 : decode cX12_line 107 = .ok (.iload_n 3, 1) := by decide +kernel
theorem dX12_line_108 : decode cX12_line 108 = .ok (.aload_n 0, 1) := by decide +kernel
theorem dX12_line_109 : decode cX12_line 109 = .ok (.invokevirtual 90, 3) := by decide +kernel
theorem dX12_line_112 : decode cX12_line 112 = .ok (.if_icmp .ge 74, 3) := by decide +kernel
theorem dX12_line_115 : decode cX12_line 115 = .ok (.iload_n 3, 1) := by decide +kernel
theorem dX12_line_116 : decode cX12_line 116 = .ok (.istore 4, 2) := by decide +kernel
theorem dX12_line_118 : decode cX12_line 118 = .ok (.iload 4, 2) := by decide +kernel
theorem dX12_line_120 : decode cX12_line 120 = .ok (.ifCond .le 52, 3) := by decide +kernel
theorem dX12_line_123 : decode cX12_line 123 = .ok (.aload_n 0, 1) := by decide +kernel
theorem dX12_line_124 : decode cX12_line 124 = .ok (.getfield 13, 3) := by decide +kernel
theorem dX12_line_127 : decode cX12_line 127 = .ok (.iconst 4, 1) := by decide +kernel
theorem dX12_line_128 : decode cX12_line 128 = .ok (.aload_n 0, 1) := by decide +kernel
theorem dX12_line_129 : decode cX12_line 129 = .ok (.getfield 70, 3) := by decide +kernel
theorem dX12_line_132 : decode cX12_line 132 = .ok (.iload 4, 2) := by decide +kernel
theorem dX12_line_134 : decode cX12_line 134 = .ok (.iconst 1, 1) := by decide +kernel
theorem dX12_line_135 : decode cX12_line 135 = .ok (.isub, 1) := by decide +kernel
theorem dX12_line_136 : decode cX12_line 136 = .ok (.iaload, 1) := by decide +kernel
theorem dX12_line_137 : decode cX12_line 137 = .ok (.imul, 1) := by decide +kernel
theorem dX12_line_138 : decode cX12_line 138 = .ok (.iaload, 1) := by decide +kernel
theorem dX12_line_139 : decode cX12_line 139 = .ok (.aload_n 0, 1) := by decide +kernel
theorem dX12_line_140 : decode cX12_line 140 = .ok (.getfield 13, 3) := by decide +kernel
theorem dX12_line_143 : decode cX12_line 143 = .ok (.iconst 4, 1) := by decide +kernel
theorem dX12_line_144 : decode cX12_line 144 = .ok (.iload_n 3, 1) := by decide +kernel
theorem dX12_line_145 : decode cX12_line 145 = .ok (.imul, 1) := by decide +kernel
theorem dX12_line_146 : decode cX12_line 146 = .ok (.iaload, 1) := by decide +kernel
theorem dX12_line_147 : decode cX12_line 147 = .ok (.if_icmp .le 25, 3) := by decide +kernel
theorem dX12_line_150 : decode cX12_line 150 = .ok (.aload_n 0, 1) := by decide +kernel
theorem dX12_line_151 : decode cX12_line 151 = .ok (.getfield 70, 3) := by decide +kernel
theorem dX12_line_154 : decode cX12_line 154 = .ok (.iload 4, 2) := by decide +kernel
theorem dX12_line_156 : decode cX12_line 156 = .ok (.aload_n 0, 1) := by decide +kernel
theorem dX12_line_157 : decode cX12_line 157 = .ok (.getfield 70, 3) := by decide +kernel
theorem dX12_line_160 : decode cX12_line 160 = .ok (.iload 4, 2) := by decide +kernel
theorem dX12_line_162 : decode cX12_line 162 = .ok (.iconst 1, 1) := by decide +kernel
theorem dX12_line_163 : decode cX12_line 163 = .ok (.isub, 1) := by decide +kernel
theorem dX12_line_164 : decode cX12_line 164 = .ok (.iaload, 1) := by decide +kernel
theorem dX12_line_165 : decode cX12_line 165 = .ok (.iastore, 1) := by decide +kernel
theorem dX12_line_166 : decode cX12_line 166 = .ok (.iinc 4 (-1), 3) := by decide +kernel
theorem dX12_line_169 : decode cX12_line 169 = .ok (.goto (-51), 3) := by decide +kernel
theorem dX12_line_172 : decode cX12_line 172 = .ok (.aload_n 0, 1) := by decide +kernel
theorem dX12_line_173 : decode cX12_line 173 = .ok (.getfield 70, 3) := by decide +kernel
theorem dX12_line_176 : decode cX12_line 176 = .ok (.iload 4, 2) := by decide +kernel
theorem dX12_line_178 : decode cX12_line 178 = .ok (.iload_n 3, 1) := by decide +kernel
theorem dX12_line_179 : decode cX12_line 179 = .ok (.iastore, 1) := by decide +kernel
theorem dX12_line_180 : decode cX12_line 180 = .ok (.iinc 3 1, 3) := by decide +kernel
theorem dX12_line_183 : decode cX12_line 183 = .ok (.goto (-76), 3) := by decide +kernel
theorem dX12_line_186 : decode cX12_line 186 = .ok (.ldc2_w 167, 3) := by decide +kernel
theorem dX12_line_189 : decode cX12_line 189 = .ok (.lstore_n 3, 1) := by decide +kernel
theorem dX12_line_190 : decode cX12_line 190 = .ok (.iconst 0, 1) := by decide +kernel
theorem dX12_line_191 : decode cX12_line 191 = .ok (.istore 5, 2) := by decide +kernel
theorem dX12_line_193 : decode cX12_line 193 = .ok (.iload 5, 2) := by decide +kernel
theorem dX12_line_195 : decode cX12_line 195 = .ok (.iconst 1, 1) := by decide +kernel
theorem dX12_line_196 : decode cX12_line 196 = .ok (.aload_n 0, 1) := by decide +kernel
theorem dX12_line_197 : decode cX12_line 197 = .ok (.invokevirtual 90, 3) := by decide +kernel
theorem dX12_line_200 : decode cX12_line 200 = .ok (.iconst 1, 1) := by decide +kernel
theorem dX12_line_201 : decode cX12_line 201 = .ok (.isub, 1) := by decide +kernel
theorem dX12_line_202 : decode cX12_line 202 = .ok (.ishl, 1) := by decide +kernel
theorem dX12_line_203 : decode cX12_line 203 = .ok (.if_icmp .ge 173, 3) := by decide +kernel
theorem dX12_line_206 : decode cX12_line 206 = .ok (.iload 5, 2) := by decide +kernel
theorem dX12_line_208 : decode cX12_line 208 = .ok (.invokestatic 177, 3) := by decide +kernel
theorem dX12_line_211 : decode cX12_line 211 = .ok (.iload_n 2, 1) := by decide +kernel
theorem dX12_line_212 : decode cX12_line 212 = .ok (.iconst 1, 1) := by decide +kernel
theorem dX12_line_213 : decode cX12_line 213 = .ok (.isub, 1) := by decide +kernel
theorem dX12_line_214 : decode cX12_line 214 = .ok (.if_icmp .eq 6, 3) := by decide +kernel
theorem dX12_line_217 : decode cX12_line 217 = .ok (.goto 153, 3) := by decide +kernel
theorem dX12_line_220 : decode cX12_line 220 = .ok (.iconst 0, 1) := by decide +kernel
theorem dX12_line_221 : decode cX12_line 221 = .ok (.istore 6, 2) := by decide +kernel
theorem dX12_line_223 : decode cX12_line 223 = .ok (.iconst 0, 1) := by decide +kernel
theorem dX12_line_224 : decode cX12_line 224 = .ok (.istore 7, 2) := by decide +kernel
theorem dX12_line_226 : decode cX12_line 226 = .ok (.iload 7, 2) := by decide +kernel
theorem dX12_line_228 : decode cX12_line 228 = .ok (.aload_n 0, 1) := by decide +kernel
theorem dX12_line_229 : decode cX12_line 229 = .ok (.invokevirtual 90, 3) := by decide +kernel
theorem dX12_line_232 : decode cX12_line 232 = .ok (.if_icmp .ge 48, 3) := by decide +kernel
theorem dX12_line_235 : decode cX12_line 235 = .ok (.aload_n 0, 1) := by decide +kernel
theorem dX12_line_236 : decode cX12_line 236 = .ok (.getfield 58, 3) := by decide +kernel
theorem dX12_line_239 : decode cX12_line 239 = .ok (.aload_n 0, 1) := by decide +kernel
theorem dX12_line_240 : decode cX12_line 240 = .ok (.getfield 70, 3) := by decide +kernel
theorem dX12_line_243 : decode cX12_line 243 = .ok (.iload 7, 2) := by decide +kernel
theorem dX12_line_245 : decode cX12_line 245 = .ok (.iaload, 1) := by decide +kernel
theorem dX12_line_246 : decode cX12_line 246 = .ok (.iload 6, 2) := by decide +kernel
theorem dX12_line_248 : decode cX12_line 248 = .ok (.iastore, 1) := by decide +kernel
theorem dX12_line_249 : decode cX12_line 249 = .ok (.iload 7, 2) := by decide +kernel
theorem dX12_line_251 : decode cX12_line 251 = .ok (.aload_n 0, 1) := by decide +kernel
theorem dX12_line_252 : decode cX12_line 252 = .ok (.invokevirtual 90, 3) := by decide +kernel
theorem dX12_line_255 : decode cX12_line 255 = .ok (.iconst 1, 1) := by decide +kernel
theorem dX12_line_256 : decode cX12_line 256 = .ok (.isub, 1) := by decide +kernel
theorem dX12_line_257 : decode cX12_line 257 = .ok (.if_icmp .ge 17, 3) := by decide +kernel
theorem dX12_line_260 : decode cX12_line 260 = .ok (.iload 5, 2) := by decide +kernel
theorem dX12_line_262 : decode cX12_line 262 = .ok (.iload 7, 2) := by decide +kernel
theorem dX12_line_264 : decode cX12_line 264 = .ok (.ishr, 1) := by decide +kernel
theorem dX12_line_265 : decode cX12_line 265 = .ok (.iconst 1, 1) := by decide +kernel
theorem dX12_line_266 : decode cX12_line 266 = .ok (.iand, 1) := by decide +kernel
theorem dX12_line_267 : decode cX12_line 267 = .ok (.iconst 1, 1) := by decide +kernel
theorem dX12_line_268 : decode cX12_line 268 = .ok (.if_icmp .ne 6, 3) := by decide +kernel
theorem dX12_line_271 : decode cX12_line 271 = .ok (.iinc 6 1, 3) := by decide +kernel
theorem dX12_line_274 : decode cX12_line 274 = .ok (.iinc 7 1, 3) := by decide +kernel
theorem dX12_line_277 : decode cX12_line 277 = .ok (.goto (-51), 3) := by decide +kernel
theorem dX12_line_280 : decode cX12_line 280 = .ok (.aload_n 0, 1) := by decide +kernel
theorem dX12_line_281 : decode cX12_line 281 = .ok (.aload_n 0, 1) := by decide +kernel
theorem dX12_line_282 : decode cX12_line 282 = .ok (.getfield 58, 3) := by decide +kernel
theorem dX12_line_285 : decode cX12_line 285 = .ok (.invokevirtual 147, 3) := by decide +kernel
theorem dX12_line_288 : decode cX12_line 288 = .ok (.pop, 1) := by decide +kernel
theorem dX12_line_289 : decode cX12_line 289 = .ok (.aload_n 0, 1) := by decide +kernel
theorem dX12_line_290 : decode cX12_line 290 = .ok (.aload_n 0, 1) := by decide +kernel
theorem dX12_line_291 : decode cX12_line 291 = .ok (.getfield 58, 3) := by decide +kernel
theorem dX12_line_294 : decode cX12_line 294 = .ok (.iload_n 1, 1) := by decide +kernel
theorem dX12_line_295 : decode cX12_line 295 = .ok (.invokevirtual 163, 3) := by decide +kernel
theorem dX12_line_298 : decode cX12_line 298 = .ok (.lstore 7, 2) := by decide +kernel
theorem dX12_line_300 : decode cX12_line 300 = .ok (.lload_n 3, 1) := by decide +kernel
theorem dX12_line_301 : decode cX12_line 301 = .ok (.lconst 0, 1) := by decide +kernel
theorem dX12_line_302 : decode cX12_line 302 = .ok (.lcmp, 1) := by decide +kernel
theorem dX12_line_303 : decode cX12_line 303 = .ok (.ifCond .lt 32, 3) := by decide +kernel
theorem dX12_line_306 : decode cX12_line 306 = .ok (.lload 7, 2) := by decide +kernel
theorem dX12_line_308 : decode cX12_line 308 = .ok (.lload_n 3, 1) := by decide +kernel
theorem dX12_line_309 : decode cX12_line 309 = .ok (.lcmp, 1) := by decide +kernel
theorem dX12_line_310 : decode cX12_line 310 = .ok (.ifCond .lt 25, 3) := by decide +kernel
theorem dX12_line_313 : decode cX12_line 313 = .ok (.lload 7, 2) := by decide +kernel
theorem dX12_line_315 : decode cX12_line 315 = .ok (.lload_n 3, 1) := by decide +kernel
theorem dX12_line_316 : decode cX12_line 316 = .ok (.lcmp, 1) := by decide +kernel
theorem dX12_line_317 : decode cX12_line 317 = .ok (.ifCond .ne 53, 3) := by decide +kernel
theorem dX12_line_320 : decode cX12_line 320 = .ok (.aload_n 0, 1) := by decide +kernel
theorem dX12_line_321 : decode cX12_line 321 = .ok (.aload_n 0, 1) := by decide +kernel
theorem dX12_line_322 : decode cX12_line 322 = .ok (.getfield 58, 3) := by decide +kernel
theorem dX12_line_325 : decode cX12_line 325 = .ok (.aload_n 0, 1) := by decide +kernel
theorem dX12_line_326 : decode cX12_line 326 = .ok (.getfield 61, 3) := by decide +kernel
theorem dX12_line_329 : decode cX12_line 329 = .ok (.invokevirtual 182, 3) := by decide +kernel
theorem dX12_line_332 : decode cX12_line 332 = .ok (.ifCond .eq 38, 3) := by decide +kernel
theorem dX12_line_335 : decode cX12_line 335 = .ok (.lload 7, 2) := by decide +kernel
theorem dX12_line_337 : decode cX12_line 337 = .ok (.lstore_n 3, 1) := by decide +kernel
theorem dX12_line_338 : decode cX12_line 338 = .ok (.iconst 0, 1) := by decide +kernel
theorem dX12_line_339 : decode cX12_line 339 = .ok (.istore 9, 2) := by decide +kernel
theorem dX12_line_341 : decode cX12_line 341 = .ok (.iload 9, 2) := by decide +kernel
theorem dX12_line_343 : decode cX12_line 343 = .ok (.aload_n 0, 1) := by decide +kernel
theorem dX12_line_344 : decode cX12_line 344 = .ok (.invokevirtual 90, 3) := by decide +kernel
theorem dX12_line_347 : decode cX12_line 347 = .ok (.if_icmp .ge 23, 3) := by decide +kernel
theorem dX12_line_350 : decode cX12_line 350 = .ok (.aload_n 0, 1) := by decide +kernel
theorem dX12_line_351 : decode cX12_line 351 = .ok (.getfield 61, 3) := by decide +kernel
theorem dX12_line_354 : decode cX12_line 354 = .ok (.iload 9, 2) := by decide +kernel
theorem dX12_line_356 : decode cX12_line 356 = .ok (.aload_n 0, 1) := by decide +kernel
theorem dX12_line_357 : decode cX12_line 357 = .ok (.getfield 58, 3) := by decide +kernel
theorem dX12_line_360 : decode cX12_line 360 = .ok (.iload 9, 2) := by decide +kernel
theorem dX12_line_362 : decode cX12_line 362 = .ok (.iaload, 1) := by decide +kernel
theorem dX12_line_363 : decode cX12_line 363 = .ok (.iastore, 1) := by decide +kernel
theorem dX12_line_364 : decode cX12_line 364 = .ok (.iinc 9 1, 3) := by decide +kernel
theorem dX12_line_367 : decode cX12_line 367 = .ok (.goto (-26), 3) := by decide +kernel
theorem dX12_line_370 : decode cX12_line 370 = .ok (.iinc 5 1, 3) := by decide +kernel
theorem dX12_line_373 : decode cX12_line 373 = .ok (.goto (-180), 3) := by decide +kernel
theorem dX12_line_376 : decode cX12_line 376 = .ok (.aload_n 0, 1) := by decide +kernel
theorem dX12_line_377 : decode cX12_line 377 = .ok (.aload_n 0, 1) := by decide +kernel
theorem dX12_line_378 : decode cX12_line 378 = .ok (.getfield 61, 3) := by decide +kernel
theorem dX12_line_381 : decode cX12_line 381 = .ok (.invokevirtual 150, 3) := by decide +kernel
theorem dX12_line_384 : decode cX12_line 384 = .ok (.lload_n 3, 1) := by decide +kernel
theorem dX12_line_385 : decode cX12_line 385 = .ok (.lreturn, 1) := by decide +kernel
theorem dX12_better_0 : decode cX12_better 0 = .ok (.aload_n 0, 1) := by decide +kernel
theorem dX12_better_1 : decode cX12_better 1 = .ok (.iconst 0, 1) := by decide +kernel
theorem dX12_better_2 : decode cX12_better 2 = .ok (.putfield 77, 3) := by decide +kernel
theorem dX12_better_5 : decode cX12_better 5 = .ok (.iload_n 1, 1) := by decide +kernel
theorem dX12_better_6 : decode cX12_better 6 = .ok (.invokestatic 157, 3) := by decide +kernel
theorem dX12_better_9 : decode cX12_better 9 = .ok (.ifCond .ne 9, 3) := by decide +kernel
theorem dX12_better_12 : decode cX12_better 12 = .ok (.aload_n 0, 1) := by decide +kernel
theorem dX12_better_13 : decode cX12_better 13 = .ok (.iconst 1, 1) := by decide +kernel
theorem dX12_better_14 : decode cX12_better 14 = .ok (.invokevirtual 98, 3) := by decide +kernel
theorem dX12_better_17 : decode cX12_better 17 = .ok (.ireturn, 1) := by decide +kernel
theorem dX12_better_18 : decode cX12_better 18 = .ok (.aload_n 0, 1) := by decide +kernel
theorem dX12_better_19 : decode cX12_better 19 = .ok (.invokevirtual 102, 3) := by decide +kernel
theorem dX12_better_22 : decode cX12_better 22 = .ok (.aload_n 0, 1) := by decide +kernel
theorem dX12_better_23 : decode cX12_better 23 = .ok (.invokevirtual 160, 3) := by decide +kernel
theorem dX12_better_26 : decode cX12_better 26 = .ok (.iconst 0, 1) := by decide +kernel
theorem dX12_better_27 : decode cX12_better 27 = .ok (.istore_n 2, 1) := by decide +kernel
theorem dX12_better_28 : decode cX12_better 28 = .ok (.iconst 1, 1) := by decide +kernel
theorem dX12_better_29 : decode cX12_better 29 = .ok (.istore_n 3, 1) := by decide +kernel
theorem dX12_better_30 : decode cX12_better 30 = .ok (.iload_n 3, 1) := by decide +kernel
theorem dX12_better_31 : decode cX12_better 31 = .ok (.ifCond .eq 258, 3) := by decide +kernel
theorem dX12_better_34 : decode cX12_better 34 = .ok (.aload_n 0, 1) := by decide +kernel
theorem dX12_better_35 : decode cX12_better 35 = .ok (.aload_n 0, 1) := by decide +kernel
theorem dX12_better_36 : decode cX12_better 36 = .ok (.getfield 26, 3) := by decide +kernel
theorem dX12_better_39 : decode cX12_better 39 = .ok (.iload_n 1, 1) := by decide +kernel
theorem dX12_better_40 : decode cX12_better 40 = .ok (.invokevirtual 163, 3) := by decide +kernel
theorem dX12_better_43 : decode cX12_better 43 = .ok (.lstore 4, 2) := by decide +kernel
theorem dX12_better_45 : decode cX12_better 45 = .ok (.lload 4, 2) := by decide +kernel
theorem dX12_better_47 : decode cX12_better 47 = .ok (.lstore 6, 2) := by decide +kernel
theorem dX12_better_49 : decode cX12_better 49 = .ok (.aload_n 0, 1) := by decide +kernel
theorem dX12_better_50 : decode cX12_better 50 = .ok (.aload_n 0, 1) := by decide +kernel
theorem dX12_better_51 : decode cX12_better 51 = .ok (.getfield 26, 3) := by decide +kernel
theorem dX12_better_54 : decode cX12_better 54 = .ok (.invokevirtual 133, 3) := by decide +kernel
theorem dX12_better_57 : decode cX12_better 57 = .ok (.istore 8, 2) := by decide +kernel
theorem dX12_better_59 : decode cX12_better 59 = .ok (.iconst 0, 1) := by decide +kernel
theorem dX12_better_60 : decode cX12_better 60 = .ok (.istore 9, 2) := by decide +kernel
theorem dX12_better_62 : decode cX12_better 62 = .ok (.iload 9, 2) := by decide +kernel
theorem dX12_better_64 : decode cX12_better 64 = .ok (.aload_n 0, 1) := by decide +kernel
theorem dX12_better_65 : decode cX12_better 65 = .ok (.invokevirtual 90, 3) := by decide +kernel
theorem dX12_better_68 : decode cX12_better 68 = .ok (.if_icmp .ge 189, 3) := by decide +kernel
theorem dX12_better_71 : decode cX12_better 71 = .ok (.iconst 1, 1) := by decide +kernel
theorem dX12_better_72 : decode cX12_better 72 = .ok (.istore 10, 2) := by decide +kernel
theorem dX12_better_74 : decode cX12_better 74 = .ok (.iconst 0, 1) := by decide +kernel
theorem dX12_better_75 : decode cX12_better 75 = .ok (.istore 11, 2) := by decide +kernel
theorem dX12_better_77 : decode cX12_better 77 = .ok (.iload 11, 2) := by decide +kernel
theorem dX12_better_79 : decode cX12_better 79 = .ok (.aload_n 0, 1) := by decide +kernel
theorem dX12_better_80 : decode cX12_better 80 = .ok (.invokevirtual 90, 3) := by decide +kernel
theorem dX12_better_83 : decode cX12_better 83 = .ok (.if_icmp .ge 45, 3) := by decide +kernel
theorem dX12_better_86 : decode cX12_better 86 = .ok (.iload 10, 2) := by decide +kernel
theorem dX12_better_88 : decode cX12_better 88 = .ok (.ifCond .eq 31, 3) := by decide +kernel
theorem dX12_better_91 : decode cX12_better 91 = .ok (.iload 11, 2) := by decide +kernel
theorem dX12_better_93 : decode cX12_better 93 = .ok (.iload 9, 2) := by decide +kernel
theorem dX12_better_95 : decode cX12_better 95 = .ok (.if_icmp .eq 20, 3) := by decide +kernel
theorem dX12_better_98 : decode cX12_better 98 = .ok (.aload_n 0, 1) := by decide +kernel
theorem dX12_better_99 : decode cX12_better 99 = .ok (.getfield 26, 3) := by decide +kernel
theorem dX12_better_102 : decode cX12_better 102 = .ok (.iload 11, 2) := by decide +kernel
theorem dX12_better_104 : decode cX12_better 104 = .ok (.iaload, 1) := by decide +kernel
theorem dX12_better_105 : decode cX12_better 105 = .ok (.aload_n 0, 1) := by decide +kernel
theorem dX12_better_106 : decode cX12_better 106 = .ok (.getfield 26, 3) := by decide +kernel
theorem dX12_better_109 : decode cX12_better 109 = .ok (.iload 9, 2) := by decide +kernel
theorem dX12_better_111 : decode cX12_better 111 = .ok (.iaload, 1) := by decide +kernel
theorem dX12_better_112 : decode cX12_better 112 = .ok (.if_icmp .eq 7, 3) := by decide +kernel
theorem dX12_better_115 : decode cX12_better 115 = .ok (.iconst 1, 1) := by decide +kernel
theorem dX12_better_116 : decode cX12_better 116 = .ok (.goto 4, 3) := by decide +kernel
theorem dX12_better_119 : decode cX12_better 119 = .ok (.iconst 0, 1) := by decide +kernel
theorem dX12_better_120 : decode cX12_better 120 = .ok (.istore 10, 2) := by decide +kernel
theorem dX12_better_122 : decode cX12_better 122 = .ok (.iinc 11 1, 3) := by decide +kernel
theorem dX12_better_125 : decode cX12_better 125 = .ok (.goto (-48), 3) := by decide +kernel
theorem dX12_better_128 : decode cX12_better 128 = .ok (.iconst 0, 1) := by decide +kernel
theorem dX12_better_129 : decode cX12_better 129 = .ok (.istore 11, 2) := by decide +kernel
theorem dX12_better_131 : decode cX12_better 131 = .ok (.iload 11, 2) := by decide +kernel
theorem dX12_better_133 : decode cX12_better 133 = .ok (.iload 8, 2) := by decide +kernel
theorem dX12_better_135 : decode cX12_better 135 = .ok (.if_icmp .gt 116, 3) := by decide +kernel
theorem dX12_better_138 : decode cX12_better 138 = .ok (.iload 11, 2) := by decide +kernel
theorem dX12_better_140 : decode cX12_better 140 = .ok (.aload_n 0, 1) := by decide +kernel
theorem dX12_better_141 : decode cX12_better 141 = .ok (.getfield 26, 3) := by decide +kernel
theorem dX12_better_144 : decode cX12_better 144 = .ok (.iload 9, 2) := by decide +kernel
theorem dX12_better_146 : decode cX12_better 146 = .ok (.iaload, 1) := by decide +kernel
theorem dX12_better_147 : decode cX12_better 147 = .ok (.if_icmp .eq 98, 3) := by decide +kernel
theorem dX12_better_150 : decode cX12_better 150 = .ok (.iload 11, 2) := by decide +kernel
theorem dX12_better_152 : decode cX12_better 152 = .ok (.iload 8, 2) := by decide +kernel
theorem dX12_better_154 : decode cX12_better 154 = .ok (.if_icmp .ne 11, 3) := by decide +kernel
theorem dX12_better_157 : decode cX12_better 157 = .ok (.iload 10, 2) := by decide +kernel
theorem dX12_better_159 : decode cX12_better 159 = .ok (.ifCond .eq 6, 3) := by decide +kernel
theorem dX12_better_162 : decode cX12_better 162 = .ok (.goto 83, 3) := by decide +kernel
theorem dX12_better_165 : decode cX12_better 165 = .ok (.aload_n 0, 1) := by decide +kernel
theorem dX12_better_166 : decode cX12_better 166 = .ok (.invokevirtual 144, 3) := by decide +kernel
theorem dX12_better_169 : decode cX12_better 169 = .ok (.aload_n 0, 1) := by decide +kernel
theorem dX12_better_170 : decode cX12_better 170 = .ok (.getfield 58, 3) := by decide +kernel
theorem dX12_better_173 : decode cX12_better 173 = .ok (.iload 9, 2) := by decide +kernel
theorem dX12_better_175 : decode cX12_better 175 = .ok (.iload 11, 2) := by decide +kernel
theorem dX12_better_177 : decode cX12_better 177 = .ok (.iastore, 1) := by decide +kernel
theorem dX12_better_178 : decode cX12_better 178 = .ok (.aload_n 0, 1) := by decide +kernel
theorem dX12_better_179 : decode cX12_better 179 = .ok (.aload_n 0, 1) := by decide +kernel
theorem dX12_better_180 : decode cX12_better 180 = .ok (.getfield 58, 3) := by decide +kernel
theorem dX12_better_183 : decode cX12_better 183 = .ok (.invokevirtual 147, 3) := by decide +kernel
theorem dX12_better_186 : decode cX12_better 186 = .ok (.pop, 1) := by decide +kernel
theorem dX12_better_187 : decode cX12_better 187 = .ok (.aload_n 0, 1) := by decide +kernel
theorem dX12_better_188 : decode cX12_better 188 = .ok (.aload_n 0, 1) := by decide +kernel
theorem dX12_better_189 : decode cX12_better 189 = .ok (.getfield 58, 3) := by decide +kernel
theorem dX12_better_192 : decode cX12_better 192 = .ok (.iload_n 1, 1) := by decide +kernel
theorem dX12_better_193 : decode cX12_better 193 = .ok (.invokevirtual 163, 3) := by decide +kernel
theorem dX12_better_196 : decode cX12_better 196 = .ok (.lstore 12, 2) := by decide +kernel
theorem dX12_better_198 : decode cX12_better 198 = .ok (.lload 12, 2) := by decide +kernel
theorem dX12_better_200 : decode cX12_better 200 = .ok (.lload 6, 2) := by decide +kernel
theorem dX12_better_202 : decode cX12_better 202 = .ok (.lcmp, 1) := by decide +kernel
theorem dX12_better_203 : decode cX12_better 203 = .ok (.ifCond .lt 6, 3) := by decide +kernel
theorem dX12_better_206 : decode cX12_better 206 = .ok (.goto 39, 3) := by decide +kernel
theorem dX12_better_209 : decode cX12_better 209 = .ok (.lload 12, 2) := by decide +kernel
theorem dX12_better_211 : decode cX12_better 211 = .ok (.lstore 6, 2) := by decide +kernel
theorem dX12_better_213 : decode cX12_better 213 = .ok (.iconst 0, 1) := by decide +kernel
theorem dX12_better_214 : decode cX12_better 214 = .ok (.istore 14, 2) := by decide +kernel
theorem dX12_better_216 : decode cX12_better 216 = .ok (.iload 14, 2) := by decide +kernel
theorem dX12_better_218 : decode cX12_better 218 = .ok (.aload_n 0, 1) := by decide +kernel
theorem dX12_better_219 : decode cX12_better 219 = .ok (.invokevirtual 90, 3) := by decide +kernel
theorem dX12_better_222 : decode cX12_better 222 = .ok (.if_icmp .ge 23, 3) := by decide +kernel
theorem dX12_better_225 : decode cX12_better 225 = .ok (.aload_n 0, 1) := by decide +kernel
theorem dX12_better_226 : decode cX12_better 226 = .ok (.getfield 61, 3) := by decide +kernel
theorem dX12_better_229 : decode cX12_better 229 = .ok (.iload 14, 2) := by decide +kernel
theorem dX12_better_231 : decode cX12_better 231 = .ok (.aload_n 0, 1) := by decide +kernel
theorem dX12_better_232 : decode cX12_better 232 = .ok (.getfield 58, 3) := by decide +kernel
theorem dX12_better_235 : decode cX12_better 235 = .ok (.iload 14, 2) := by decide +kernel
theorem dX12_better_237 : decode cX12_better 237 = .ok (.iaload, 1) := by decide +kernel
theorem dX12_better_238 : decode cX12_better 238 = .ok (.iastore, 1) := by decide +kernel
theorem dX12_better_239 : decode cX12_better 239 = .ok (.iinc 14 1, 3) := by decide +kernel
theorem dX12_better_242 : decode cX12_better 242 = .ok (.goto (-26), 3) := by decide +kernel
theorem dX12_better_245 : decode cX12_better 245 = .ok (.iinc 11 1, 3) := by decide +kernel
theorem dX12_better_248 : decode cX12_better 248 = .ok (.goto (-117), 3) := by decide +kernel
theorem dX12_better_251 : decode cX12_better 251 = .ok (.iinc 9 1, 3) := by decide +kernel
theorem dX12_better_254 : decode cX12_better 254 = .ok (.goto (-192), 3) := by decide +kernel
theorem dX12_better_257 : decode cX12_better 257 = .ok (.lload 6, 2) := by decide +kernel
theorem dX12_better_259 : decode cX12_better 259 = .ok (.lload 4, 2) := by decide +kernel
theorem dX12_better_261 : decode cX12_better 261 = .ok (.lcmp, 1) := by decide +kernel
theorem dX12_better_262 : decode cX12_better 262 = .ok (.ifCond .ge 7, 3) := by decide +kernel
theorem dX12_better_265 : decode cX12_better 265 = .ok (.iconst 1, 1) := by decide +kernel
theorem dX12_better_266 : decode cX12_better 266 = .ok (.goto 4, 3) := by decide +kernel
theorem dX12_better_269 : decode cX12_better 269 = .ok (.iconst 0, 1) := by decide +kernel
theorem dX12_better_270 : decode cX12_better 270 = .ok (.istore_n 3, 1) := by decide +kernel
theorem dX12_better_271 : decode cX12_better 271 = .ok (.iload_n 3, 1) := by decide +kernel
theorem dX12_better_272 : decode cX12_better 272 = .ok (.ifCond .eq 14, 3) := by decide +kernel
theorem dX12_better_275 : decode cX12_better 275 = .ok (.aload_n 0, 1) := by decide +kernel
theorem dX12_better_276 : decode cX12_better 276 = .ok (.aload_n 0, 1) := by decide +kernel
theorem dX12_better_277 : decode cX12_better 277 = .ok (.getfield 61, 3) := by decide +kernel
theorem dX12_better_280 : decode cX12_better 280 = .ok (.invokevirtual 150, 3) := by decide +kernel
theorem dX12_better_283 : decode cX12_better 283 = .ok (.iinc 2 1, 3) := by decide +kernel
theorem dX12_better_286 : decode cX12_better 286 = .ok (.goto (-256), 3) := by decide +kernel
theorem dX12_better_289 : decode cX12_better 289 = .ok (.iload_n 2, 1) := by decide +kernel
theorem dX12_better_290 : decode cX12_better 290 = .ok (.ireturn, 1) := by decide +kernel
theorem dX12_two_0 : decode cX12_two 0 = .ok (.aload_n 0, 1) := by decide +kernel
theorem dX12_two_1 : decode cX12_two 1 = .ok (.iconst 0, 1) := by decide +kernel
theorem dX12_two_2 : decode cX12_two 2 = .ok (.putfield 77, 3) := by decide +kernel
theorem dX12_two_5 : decode cX12_two 5 = .ok (.aload_n 0, 1) := by decide +kernel
theorem dX12_two_6 : decode cX12_two 6 = .ok (.invokevirtual 102, 3) := by decide +kernel
theorem dX12_two_9 : decode cX12_two 9 = .ok (.aload_n 0, 1) := by decide +kernel
theorem dX12_two_10 : decode cX12_two 10 = .ok (.invokevirtual 160, 3) := by decide +kernel
theorem dX12_two_13 : decode cX12_two 13 = .ok (.iconst (-1), 1) := by decide +kernel
theorem dX12_two_14 : decode cX12_two 14 = .ok (.istore_n 1, 1) := by decide +kernel
theorem dX12_two_15 : decode cX12_two 15 = .ok (.iconst 0, 1) := by decide +kernel
theorem dX12_two_16 : decode cX12_two 16 = .ok (.istore_n 2, 1) := by decide +kernel
theorem dX12_two_17 : decode cX12_two 17 = .ok (.iload_n 2, 1) := by decide +kernel
theorem dX12_two_18 : decode cX12_two 18 = .ok (.iconst 1, 1) := by decide +kernel
theorem dX12_two_19 : decode cX12_two 19 = .ok (.aload_n 0, 1) := by decide +kernel
theorem dX12_two_20 : decode cX12_two 20 = .ok (.invokevirtual 90, 3) := by decide +kernel
theorem dX12_two_23 : decode cX12_two 23 = .ok (.iconst 1, 1) := by decide +kernel
theorem dX12_two_24 : decode cX12_two 24 = .ok (.isub, 1) := by decide +kernel
theorem dX12_two_25 : decode cX12_two 25 = .ok (.ishl, 1) := by decide +kernel
theorem dX12_two_26 : decode cX12_two 26 = .ok (.if_icmp .ge 108, 3) := by decide +kernel
theorem dX12_two_29 : decode cX12_two 29 = .ok (.aload_n 0, 1) := by decide +kernel
theorem dX12_two_30 : decode cX12_two 30 = .ok (.getfield 58, 3) := by decide +kernel
theorem dX12_two_33 : decode cX12_two 33 = .ok (.iconst 0, 1) := by decide +kernel
theorem dX12_two_34 : decode cX12_two 34 = .ok (.iconst 0, 1) := by decide +kernel
theorem dX12_two_35 : decode cX12_two 35 = .ok (.iastore, 1) := by decide +kernel
theorem dX12_two_36 : decode cX12_two 36 = .ok (.iconst 1, 1) := by decide +kernel
theorem dX12_two_37 : decode cX12_two 37 = .ok (.istore_n 3, 1) := by decide +kernel
theorem dX12_two_38 : decode cX12_two 38 = .ok (.iload_n 3, 1) := by decide +kernel
theorem dX12_two_39 : decode cX12_two 39 = .ok (.aload_n 0, 1) := by decide +kernel
theorem dX12_two_40 : decode cX12_two 40 = .ok (.invokevirtual 90, 3) := by decide +kernel
theorem dX12_two_43 : decode cX12_two 43 = .ok (.if_icmp .ge 27, 3) := by decide +kernel
theorem dX12_two_46 : decode cX12_two 46 = .ok (.aload_n 0, 1) := by decide +kernel
theorem dX12_two_47 : decode cX12_two 47 = .ok (.getfield 58, 3) := by decide +kernel
theorem dX12_two_50 : decode cX12_two 50 = .ok (.iload_n 3, 1) := by decide +kernel
theorem dX12_two_51 : decode cX12_two 51 = .ok (.iload_n 2, 1) := by decide +kernel
theorem dX12_two_52 : decode cX12_two 52 = .ok (.aload_n 0, 1) := by decide +kernel
theorem dX12_two_53 : decode cX12_two 53 = .ok (.invokevirtual 90, 3) := by decide +kernel
theorem dX12_two_56 : decode cX12_two 56 = .ok (.iconst 1, 1) := by decide +kernel
theorem dX12_two_57 : decode cX12_two 57 = .ok (.isub, 1) := by decide +kernel
theorem dX12_two_58 : decode cX12_two 58 = .ok (.iload_n 3, 1) := by decide +kernel
theorem dX12_two_59 : decode cX12_two 59 = .ok (.isub, 1) := by decide +kernel
theorem dX12_two_60 : decode cX12_two 60 = .ok (.ishr, 1) := by decide +kernel
theorem dX12_two_61 : decode cX12_two 61 = .ok (.iconst 1, 1) := by decide +kernel
theorem dX12_two_62 : decode cX12_two 62 = .ok (.iand, 1) := by decide +kernel
theorem dX12_two_63 : decode cX12_two 63 = .ok (.iastore, 1) := by decide +kernel
theorem dX12_two_64 : decode cX12_two 64 = .ok (.iinc 3 1, 3) := by decide +kernel
theorem dX12_two_67 : decode cX12_two 67 = .ok (.goto (-29), 3) := by decide +kernel
theorem dX12_two_70 : decode cX12_two 70 = .ok (.aload_n 0, 1) := by decide +kernel
theorem dX12_two_71 : decode cX12_two 71 = .ok (.aload_n 0, 1) := by decide +kernel
theorem dX12_two_72 : decode cX12_two 72 = .ok (.getfield 58, 3) := by decide +kernel
theorem dX12_two_75 : decode cX12_two 75 = .ok (.iconst 2, 1) := by decide +kernel
theorem dX12_two_76 : decode cX12_two 76 = .ok (.invokevirtual 163, 3) := by decide +kernel
theorem dX12_two_79 : decode cX12_two 79 = .ok (.l2i, 1) := by decide +kernel
theorem dX12_two_80 : decode cX12_two 80 = .ok (.istore_n 3, 1) := by decide +kernel
theorem dX12_two_81 : decode cX12_two 81 = .ok (.iload_n 1, 1) := by decide +kernel
theorem dX12_two_82 : decode cX12_two 82 = .ok (.iconst (-1), 1) := by decide +kernel
theorem dX12_two_83 : decode cX12_two 83 = .ok (.if_icmp .eq 11, 3) := by decide +kernel
theorem dX12_two_86 : decode cX12_two 86 = .ok (.iload_n 3, 1) := by decide +kernel
theorem dX12_two_87 : decode cX12_two 87 = .ok (.iload_n 1, 1) := by decide +kernel
theorem dX12_two_88 : decode cX12_two 88 = .ok (.if_icmp .lt 6, 3) := by decide +kernel
theorem dX12_two_91 : decode cX12_two 91 = .ok (.goto 37, 3) := by decide +kernel
theorem dX12_two_94 : decode cX12_two 94 = .ok (.iload_n 3, 1) := by decide +kernel
theorem dX12_two_95 : decode cX12_two 95 = .ok (.istore_n 1, 1) := by decide +kernel
theorem dX12_two_96 : decode cX12_two 96 = .ok (.iconst 0, 1) := by decide +kernel
theorem dX12_two_97 : decode cX12_two 97 = .ok (.istore 4, 2) := by decide +kernel
theorem dX12_two_99 : decode cX12_two 99 = .ok (.iload 4, 2) := by decide +kernel
theorem dX12_two_101 : decode cX12_two 101 = .ok (.aload_n 0, 1) := by decide +kernel
theorem dX12_two_102 : decode cX12_two 102 = .ok (.invokevirtual 90, 3) := by decide +kernel
theorem dX12_two_105 : decode cX12_two 105 = .ok (.if_icmp .ge 23, 3) := by decide +kernel
theorem dX12_two_108 : decode cX12_two 108 = .ok (.aload_n 0, 1) := by decide +kernel
theorem dX12_two_109 : decode cX12_two 109 = .ok (.getfield 61, 3) := by decide +kernel
theorem dX12_two_112 : decode cX12_two 112 = .ok (.iload 4, 2) := by decide +kernel
theorem dX12_two_114 : decode cX12_two 114 = .ok (.aload_n 0, 1) := by decide +kernel
theorem dX12_two_115 : decode cX12_two 115 = .ok (.getfield 58, 3) := by decide +kernel
theorem dX12_two_118 : decode cX12_two 118 = .ok (.iload 4, 2) := by decide +kernel
theorem dX12_two_120 : decode cX12_two 120 = .ok (.iaload, 1) := by decide +kernel
theorem dX12_two_121 : decode cX12_two 121 = .ok (.iastore, 1) := by decide +kernel
theorem dX12_two_122 : decode cX12_two 122 = .ok (.iinc 4 1, 3) := by decide +kernel
theorem dX12_two_125 : decode cX12_two 125 = .ok (.goto (-26), 3) := by decide +kernel
theorem dX12_two_128 : decode cX12_two 128 = .ok (.iinc 2 1, 3) := by decide +kernel
theorem dX12_two_131 : decode cX12_two 131 = .ok (.goto (-114), 3) := by decide +kernel
theorem dX12_two_134 : decode cX12_two 134 = .ok (.aload_n 0, 1) := by decide +kernel
theorem dX12_two_135 : decode cX12_two 135 = .ok (.aload_n 0, 1) := by decide +kernel
theorem dX12_two_136 : decode cX12_two 136 = .ok (.getfield 61, 3) := by decide +kernel
theorem dX12_two_139 : decode cX12_two 139 = .ok (.invokevirtual 150, 3) := by decide +kernel
theorem dX12_two_142 : decode cX12_two 142 = .ok (.iload_n 1, 1) := by decide +kernel
theorem dX12_two_143 : decode cX12_two 143 = .ok (.ireturn, 1) := by decide +kernel
theorem dX12_nearest_0 : decode cX12_nearest 0 = .ok (.iconst 0, 1) := by decide +kernel
theorem dX12_nearest_1 : decode cX12_nearest 1 = .ok (.istore_n 3, 1) := by decide +kernel
theorem dX12_nearest_2 : decode cX12_nearest 2 = .ok (.iconst 1, 1) := by decide +kernel
theorem dX12_nearest_3 : decode cX12_nearest 3 = .ok (.istore 4, 2) := by decide +kernel
theorem dX12_nearest_5 : decode cX12_nearest 5 = .ok (.iload 4, 2) := by decide +kernel
theorem dX12_nearest_7 : decode cX12_nearest 7 = .ok (.iload_n 2, 1) := by decide +kernel
theorem dX12_nearest_8 : decode cX12_nearest 8 = .ok (.if_icmp .ge 48, 3) := by decide +kernel
theorem dX12_nearest_11 : decode cX12_nearest 11 = .ok (.aload_n 0, 1) := by decide +kernel
theorem dX12_nearest_12 : decode cX12_nearest 12 = .ok (.getfield 16, 3) := by decide +kernel
theorem dX12_nearest_15 : decode cX12_nearest 15 = .ok (.bipush 12, 2) := by decide +kernel
theorem dX12_nearest_17 : decode cX12_nearest 17 = .ok (.iload_n 1, 1) := by decide +kernel
theorem dX12_nearest_18 : decode cX12_nearest 18 = .ok (.imul, 1) := by decide +kernel
theorem dX12_nearest_19 : decode cX12_nearest 19 = .ok (.aload_n 0, 1) := by decide +kernel
theorem dX12_nearest_20 : decode cX12_nearest 20 = .ok (.getfield 70, 3) := by decide +kernel
theorem dX12_nearest_23 : decode cX12_nearest 23 = .ok (.iload 4, 2) := by decide +kernel
theorem dX12_nearest_25 : decode cX12_nearest 25 = .ok (.iaload, 1) := by decide +kernel
theorem dX12_nearest_26 : decode cX12_nearest 26 = .ok (.iadd, 1) := by decide +kernel
theorem dX12_nearest_27 : decode cX12_nearest 27 = .ok (.iaload, 1) := by decide +kernel
theorem dX12_nearest_28 : decode cX12_nearest 28 = .ok (.aload_n 0, 1) := by decide +kernel
theorem dX12_nearest_29 : decode cX12_nearest 29 = .ok (.getfield 16, 3) := by decide +kernel
theorem dX12_nearest_32 : decode cX12_nearest 32 = .ok (.bipush 12, 2) := by decide +kernel
theorem dX12_nearest_34 : decode cX12_nearest 34 = .ok (.iload_n 1, 1) := by decide +kernel
theorem dX12_nearest_35 : decode cX12_nearest 35 = .ok (.imul, 1) := by decide +kernel
theorem dX12_nearest_36 : decode cX12_nearest 36 = .ok (.aload_n 0, 1) := by decide +kernel
theorem dX12_nearest_37 : decode cX12_nearest 37 = .ok (.getfield 70, 3) := by decide +kernel
theorem dX12_nearest_40 : decode cX12_nearest 40 = .ok (.iload_n 3, 1) := by decide +kernel
theorem dX12_nearest_41 : decode cX12_nearest 41 = .ok (.iaload, 1) := by decide +kernel
theorem dX12_nearest_42 : decode cX12_nearest 42 = .ok (.iadd, 1) := by decide +kernel
theorem dX12_nearest_43 : decode cX12_nearest 43 = .ok (.iaload, 1) := by decide +kernel
theorem dX12_nearest_44 : decode cX12_nearest 44 = .ok (.if_icmp .ge 6, 3) := by decide +kernel
theorem dX12_nearest_47 : decode cX12_nearest 47 = .ok (.iload 4, 2) := by decide +kernel
theorem dX12_nearest_49 : decode cX12_nearest 49 = .ok (.istore_n 3, 1) := by decide +kernel
theorem dX12_nearest_50 : decode cX12_nearest 50 = .ok (.iinc 4 1, 3) := by decide +kernel
theorem dX12_nearest_53 : decode cX12_nearest 53 = .ok (.goto (-48), 3) := by decide +kernel
theorem dX12_nearest_56 : decode cX12_nearest 56 = .ok (.iload_n 3, 1) := by decide +kernel
theorem dX12_nearest_57 : decode cX12_nearest 57 = .ok (.ireturn, 1) := by decide +kernel
theorem dX12_centres_0 : decode cX12_centres 0 = .ok (.aload_n 0, 1) := by decide +kernel
theorem dX12_centres_1 : decode cX12_centres 1 = .ok (.iconst 0, 1) := by decide +kernel
theorem dX12_centres_2 : decode cX12_centres 2 = .ok (.putfield 77, 3) := by decide +kernel
theorem dX12_centres_5 : decode cX12_centres 5 = .ok (.iload_n 1, 1) := by decide +kernel
theorem dX12_centres_6 : decode cX12_centres 6 = .ok (.iconst 1, 1) := by decide +kernel
theorem dX12_centres_7 : decode cX12_centres 7 = .ok (.if_icmp .lt 11, 3) := by decide +kernel
theorem dX12_centres_10 : decode cX12_centres 10 = .ok (.iload_n 1, 1) := by decide +kernel
theorem dX12_centres_11 : decode cX12_centres 11 = .ok (.aload_n 0, 1) := by decide +kernel
theorem dX12_centres_12 : decode cX12_centres 12 = .ok (.invokevirtual 90, 3) := by decide +kernel
theorem dX12_centres_15 : decode cX12_centres 15 = .ok (.if_icmp .le 9, 3) := by decide +kernel
theorem dX12_centres_18 : decode cX12_centres 18 = .ok (.aload_n 0, 1) := by decide +kernel
theorem dX12_centres_19 : decode cX12_centres 19 = .ok (.iconst 1, 1) := by decide +kernel
theorem dX12_centres_20 : decode cX12_centres 20 = .ok (.invokevirtual 98, 3) := by decide +kernel
theorem dX12_centres_23 : decode cX12_centres 23 = .ok (.ireturn, 1) := by decide +kernel
theorem dX12_centres_24 : decode cX12_centres 24 = .ok (.aload_n 0, 1) := by decide +kernel
theorem dX12_centres_25 : decode cX12_centres 25 = .ok (.invokevirtual 102, 3) := by decide +kernel
theorem dX12_centres_28 : decode cX12_centres 28 = .ok (.aload_n 0, 1) := by decide +kernel
theorem dX12_centres_29 : decode cX12_centres 29 = .ok (.getfield 70, 3) := by decide +kernel
theorem dX12_centres_32 : decode cX12_centres 32 = .ok (.iconst 0, 1) := by decide +kernel
theorem dX12_centres_33 : decode cX12_centres 33 = .ok (.iconst 0, 1) := by decide +kernel
theorem dX12_centres_34 : decode cX12_centres 34 = .ok (.iastore, 1) := by decide +kernel
theorem dX12_centres_35 : decode cX12_centres 35 = .ok (.iconst 1, 1) := by decide +kernel
theorem dX12_centres_36 : decode cX12_centres 36 = .ok (.istore_n 2, 1) := by decide +kernel
theorem dX12_centres_37 : decode cX12_centres 37 = .ok (.iload_n 2, 1) := by decide +kernel
theorem dX12_centres_38 : decode cX12_centres 38 = .ok (.iload_n 1, 1) := by decide +kernel
theorem dX12_centres_39 : decode cX12_centres 39 = .ok (.if_icmp .ge 81, 3) := by decide +kernel
theorem dX12_centres_42 : decode cX12_centres 42 = .ok (.iconst 0, 1) := by decide +kernel
theorem dX12_centres_43 : decode cX12_centres 43 = .ok (.istore_n 3, 1) := by decide +kernel
theorem dX12_centres_44 : decode cX12_centres 44 = .ok (.iconst (-1), 1) := by decide +kernel
theorem dX12_centres_45 : decode cX12_centres 45 = .ok (.istore 4, 2) := by decide +kernel
theorem dX12_centres_47 : decode cX12_centres 47 = .ok (.iconst 0, 1) := by decide +kernel
theorem dX12_centres_48 : decode cX12_centres 48 = .ok (.istore 5, 2) := by decide +kernel
theorem dX12_centres_50 : decode cX12_centres 50 = .ok (.iload 5, 2) := by decide +kernel
theorem dX12_centres_52 : decode cX12_centres 52 = .ok (.aload_n 0, 1) := by decide +kernel
theorem dX12_centres_53 : decode cX12_centres 53 = .ok (.invokevirtual 90, 3) := by decide +kernel
theorem dX12_centres_56 : decode cX12_centres 56 = .ok (.if_icmp .ge 51, 3) := by decide +kernel
theorem dX12_centres_59 : decode cX12_centres 59 = .ok (.aload_n 0, 1) := by decide +kernel
theorem dX12_centres_60 : decode cX12_centres 60 = .ok (.getfield 16, 3) := by decide +kernel
theorem dX12_centres_63 : decode cX12_centres 63 = .ok (.bipush 12, 2) := by decide +kernel
theorem dX12_centres_65 : decode cX12_centres 65 = .ok (.iload 5, 2) := by decide +kernel
theorem dX12_centres_67 : decode cX12_centres 67 = .ok (.imul, 1) := by decide +kernel
theorem dX12_centres_68 : decode cX12_centres 68 = .ok (.aload_n 0, 1) := by decide +kernel
theorem dX12_centres_69 : decode cX12_centres 69 = .ok (.getfield 70, 3) := by decide +kernel
theorem dX12_centres_72 : decode cX12_centres 72 = .ok (.aload_n 0, 1) := by decide +kernel
theorem dX12_centres_73 : decode cX12_centres 73 = .ok (.iload 5, 2) := by decide +kernel
theorem dX12_centres_75 : decode cX12_centres 75 = .ok (.iload_n 2, 1) := by decide +kernel
theorem dX12_centres_76 : decode cX12_centres 76 = .ok (.invokevirtual 186, 3) := by decide +kernel
theorem dX12_centres_79 : decode cX12_centres 79 = .ok (.iaload, 1) := by decide +kernel
theorem dX12_centres_80 : decode cX12_centres 80 = .ok (.iadd, 1) := by decide +kernel
theorem dX12_centres_81 : decode cX12_centres 81 = .ok (.iaload, 1) := by decide +kernel
theorem dX12_centres_82 : decode cX12_centres 82 = .ok (.istore 6, 2) := by decide +kernel
theorem dX12_centres_84 : decode cX12_centres 84 = .ok (.iload 6, 2) := by decide +kernel
theorem dX12_centres_86 : decode cX12_centres 86 = .ok (.iload 4, 2) := by decide +kernel
theorem dX12_centres_88 : decode cX12_centres 88 = .ok (.if_icmp .gt 6, 3) := by decide +kernel
theorem dX12_centres_91 : decode cX12_centres 91 = .ok (.goto 10, 3) := by decide +kernel
theorem dX12_centres_94 : decode cX12_centres 94 = .ok (.iload 6, 2) := by decide +kernel
theorem dX12_centres_96 : decode cX12_centres 96 = .ok (.istore 4, 2) := by decide +kernel
theorem dX12_centres_98 : decode cX12_centres 98 = .ok (.iload 5, 2) := by decide +kernel
theorem dX12_centres_100 : decode cX12_centres 100 = .ok (.istore_n 3, 1) := by decide +kernel
theorem dX12_centres_101 : decode cX12_centres 101 = .ok (.iinc 5 1, 3) := by decide +kernel
theorem dX12_centres_104 : decode cX12_centres 104 = .ok (.goto (-54), 3) := by decide +kernel
theorem dX12_centres_107 : decode cX12_centres 107 = .ok (.aload_n 0, 1) := by decide +kernel
theorem dX12_centres_108 : decode cX12_centres 108 = .ok (.getfield 70, 3) := by decide +kernel
theorem dX12_centres_111 : decode cX12_centres 111 = .ok (.iload_n 2, 1) := by decide +kernel
theorem dX12_centres_112 : decode cX12_centres 112 = .ok (.iload_n 3, 1) := by decide +kernel
theorem dX12_centres_113 : decode cX12_centres 113 = .ok (.iastore, 1) := by decide +kernel
theorem dX12_centres_114 : decode cX12_centres 114 = .ok (.iinc 2 1, 3) := by decide +kernel
theorem dX12_centres_117 : decode cX12_centres 117 = .ok (.goto (-80), 3) := by decide +kernel
theorem dX12_centres_120 : decode cX12_centres 120 = .ok (.iconst 0, 1) := by decide +kernel
theorem dX12_centres_121 : decode cX12_centres 121 = .ok (.istore_n 2, 1) := by decide +kernel
theorem dX12_centres_122 : decode cX12_centres 122 = .ok (.iconst 0, 1) := by decide +kernel
theorem dX12_centres_123 : decode cX12_centres 123 = .ok (.istore_n 3, 1) := by decide +kernel
theorem dX12_centres_124 : decode cX12_centres 124 = .ok (.iload_n 3, 1) := by decide +kernel
theorem dX12_centres_125 : decode cX12_centres 125 = .ok (.aload_n 0, 1) := by decide +kernel
theorem dX12_centres_126 : decode cX12_centres 126 = .ok (.invokevirtual 90, 3) := by decide +kernel
theorem dX12_centres_129 : decode cX12_centres 129 = .ok (.if_icmp .ge 47, 3) := by decide +kernel
theorem dX12_centres_132 : decode cX12_centres 132 = .ok (.aload_n 0, 1) := by decide +kernel
theorem dX12_centres_133 : decode cX12_centres 133 = .ok (.getfield 58, 3) := by decide +kernel
theorem dX12_centres_136 : decode cX12_centres 136 = .ok (.iload_n 3, 1) := by decide +kernel
theorem dX12_centres_137 : decode cX12_centres 137 = .ok (.aload_n 0, 1) := by decide +kernel
theorem dX12_centres_138 : decode cX12_centres 138 = .ok (.iload_n 3, 1) := by decide +kernel
theorem dX12_centres_139 : decode cX12_centres 139 = .ok (.iload_n 1, 1) := by decide +kernel
theorem dX12_centres_140 : decode cX12_centres 140 = .ok (.invokevirtual 186, 3) := by decide +kernel
theorem dX12_centres_143 : decode cX12_centres 143 = .ok (.iastore, 1) := by decide +kernel
theorem dX12_centres_144 : decode cX12_centres 144 = .ok (.iload_n 2, 1) := by decide +kernel
theorem dX12_centres_145 : decode cX12_centres 145 = .ok (.aload_n 0, 1) := by decide +kernel
theorem dX12_centres_146 : decode cX12_centres 146 = .ok (.getfield 16, 3) := by decide +kernel
theorem dX12_centres_149 : decode cX12_centres 149 = .ok (.bipush 12, 2) := by decide +kernel
theorem dX12_centres_151 : decode cX12_centres 151 = .ok (.iload_n 3, 1) := by decide +kernel
theorem dX12_centres_152 : decode cX12_centres 152 = .ok (.imul, 1) := by decide +kernel
theorem dX12_centres_153 : decode cX12_centres 153 = .ok (.aload_n 0, 1) := by decide +kernel
theorem dX12_centres_154 : decode cX12_centres 154 = .ok (.getfield 70, 3) := by decide +kernel
theorem dX12_centres_157 : decode cX12_centres 157 = .ok (.aload_n 0, 1) := by decide +kernel
theorem dX12_centres_158 : decode cX12_centres 158 = .ok (.getfield 58, 3) := by decide +kernel
theorem dX12_centres_161 : decode cX12_centres 161 = .ok (.iload_n 3, 1) := by decide +kernel
theorem dX12_centres_162 : decode cX12_centres 162 = .ok (.iaload, 1) := by decide +kernel
theorem dX12_centres_163 : decode cX12_centres 163 = .ok (.iaload, 1) := by decide +kernel
theorem dX12_centres_164 : decode cX12_centres 164 = .ok (.iadd, 1) := by decide +kernel
theorem dX12_centres_165 : decode cX12_centres 165 = .ok (.iaload, 1) := by decide +kernel
theorem dX12_centres_166 : decode cX12_centres 166 = .ok (.invokestatic 125, 3) := by decide +kernel
theorem dX12_centres_169 : decode cX12_centres 169 = .ok (.istore_n 2, 1) := by decide +kernel
theorem dX12_centres_170 : decode cX12_centres 170 = .ok (.iinc 3 1, 3) := by decide +kernel
theorem dX12_centres_173 : decode cX12_centres 173 = .ok (.goto (-49), 3) := by decide +kernel
theorem dX12_centres_176 : decode cX12_centres 176 = .ok (.aload_n 0, 1) := by decide +kernel
theorem dX12_centres_177 : decode cX12_centres 177 = .ok (.aload_n 0, 1) := by decide +kernel
theorem dX12_centres_178 : decode cX12_centres 178 = .ok (.getfield 58, 3) := by decide +kernel
theorem dX12_centres_181 : decode cX12_centres 181 = .ok (.invokevirtual 147, 3) := by decide +kernel
theorem dX12_centres_184 : decode cX12_centres 184 = .ok (.pop, 1) := by decide +kernel
theorem dX12_centres_185 : decode cX12_centres 185 = .ok (.aload_n 0, 1) := by decide +kernel
theorem dX12_centres_186 : decode cX12_centres 186 = .ok (.aload_n 0, 1) := by decide +kernel
theorem dX12_centres_187 : decode cX12_centres 187 = .ok (.getfield 58, 3) := by decide +kernel
theorem dX12_centres_190 : decode cX12_centres 190 = .ok (.invokevirtual 150, 3) := by decide +kernel
theorem dX12_centres_193 : decode cX12_centres 193 = .ok (.iload_n 2, 1) := by decide +kernel
theorem dX12_centres_194 : decode cX12_centres 194 = .ok (.ireturn, 1) := by decide +kernel
theorem dX12_like_0 : decode cX12_like 0 = .ok (.bipush 12, 2) := by decide +kernel
theorem dX12_like_2 : decode cX12_like 2 = .ok (.iload_n 1, 1) := by decide +kernel
theorem dX12_like_3 : decode cX12_like 3 = .ok (.imul, 1) := by decide +kernel
theorem dX12_like_4 : decode cX12_like 4 = .ok (.iload_n 2, 1) := by decide +kernel
theorem dX12_like_5 : decode cX12_like 5 = .ok (.iadd, 1) := by decide +kernel
theorem dX12_like_6 : decode cX12_like 6 = .ok (.istore_n 3, 1) := by decide +kernel
theorem dX12_like_7 : decode cX12_like 7 = .ok (.aload_n 0, 1) := by decide +kernel
theorem dX12_like_8 : decode cX12_like 8 = .ok (.getfield 19, 3) := by decide +kernel
theorem dX12_like_11 : decode cX12_like 11 = .ok (.iload_n 3, 1) := by decide +kernel
theorem dX12_like_12 : decode cX12_like 12 = .ok (.iaload, 1) := by decide +kernel
theorem dX12_like_13 : decode cX12_like 13 = .ok (.ifCond .le 16, 3) := by decide +kernel
theorem dX12_like_16 : decode cX12_like 16 = .ok (.aload_n 0, 1) := by decide +kernel
theorem dX12_like_17 : decode cX12_like 17 = .ok (.getfield 22, 3) := by decide +kernel
theorem dX12_like_20 : decode cX12_like 20 = .ok (.iload_n 3, 1) := by decide +kernel
theorem dX12_like_21 : decode cX12_like 21 = .ok (.baload, 1) := by decide +kernel
theorem dX12_like_22 : decode cX12_like 22 = .ok (.ifCond .eq 7, 3) := by decide +kernel
theorem dX12_like_25 : decode cX12_like 25 = .ok (.iconst 1, 1) := by decide +kernel
theorem dX12_like_26 : decode cX12_like 26 = .ok (.goto 4, 3) := by decide +kernel
theorem dX12_like_29 : decode cX12_like 29 = .ok (.iconst 0, 1) := by decide +kernel
theorem dX12_like_30 : decode cX12_like 30 = .ok (.ireturn, 1) := by decide +kernel
theorem dX12_gather_0 : decode cX12_gather 0 = .ok (.iconst 0, 1) := by decide +kernel
theorem dX12_gather_1 : decode cX12_gather 1 = .ok (.istore_n 2, 1) := by decide +kernel
theorem dX12_gather_2 : decode cX12_gather 2 = .ok (.iload_n 2, 1) := by decide +kernel
theorem dX12_gather_3 : decode cX12_gather 3 = .ok (.aload_n 0, 1) := by decide +kernel
theorem dX12_gather_4 : decode cX12_gather 4 = .ok (.invokevirtual 90, 3) := by decide +kernel
theorem dX12_gather_7 : decode cX12_gather 7 = .ok (.if_icmp .ge 16, 3) := by decide +kernel
theorem dX12_gather_10 : decode cX12_gather 10 = .ok (.aload_n 0, 1) := by decide +kernel
theorem dX12_gather_11 : decode cX12_gather 11 = .ok (.getfield 58, 3) := by decide +kernel
theorem dX12_gather_14 : decode cX12_gather 14 = .ok (.iload_n 2, 1) := by decide +kernel
theorem dX12_gather_15 : decode cX12_gather 15 = .ok (.iconst (-1), 1) := by decide +kernel
theorem dX12_gather_16 : decode cX12_gather 16 = .ok (.iastore, 1) := by decide +kernel
theorem dX12_gather_17 : decode cX12_gather 17 = .ok (.iinc 2 1, 3) := by decide +kernel
theorem dX12_gather_20 : decode cX12_gather 20 = .ok (.goto (-18), 3) := by decide +kernel
theorem dX12_gather_23 : decode cX12_gather 23 = .ok (.iconst 0, 1) := by decide +kernel
theorem dX12_gather_24 : decode cX12_gather 24 = .ok (.istore_n 2, 1) := by decide +kernel
theorem dX12_gather_25 : decode cX12_gather 25 = .ok (.iconst 0, 1) := by decide +kernel
theorem dX12_gather_26 : decode cX12_gather 26 = .ok (.istore_n 3, 1) := by decide +kernel
theorem dX12_gather_27 : decode cX12_gather 27 = .ok (.iload_n 3, 1) := by decide +kernel
theorem dX12_gather_28 : decode cX12_gather 28 = .ok (.aload_n 0, 1) := by decide +kernel
theorem dX12_gather_29 : decode cX12_gather 29 = .ok (.invokevirtual 90, 3) := by decide +kernel
theorem dX12_gather_32 : decode cX12_gather 32 = .ok (.if_icmp .ge 86, 3) := by decide +kernel
theorem dX12_gather_35 : decode cX12_gather 35 = .ok (.aload_n 1, 1) := by decide +kernel
theorem dX12_gather_36 : decode cX12_gather 36 = .ok (.iload_n 3, 1) := by decide +kernel
theorem dX12_gather_37 : decode cX12_gather 37 = .ok (.iaload, 1) := by decide +kernel
theorem dX12_gather_38 : decode cX12_gather 38 = .ok (.istore 4, 2) := by decide +kernel
theorem dX12_gather_40 : decode cX12_gather 40 = .ok (.aload_n 0, 1) := by decide +kernel
theorem dX12_gather_41 : decode cX12_gather 41 = .ok (.getfield 58, 3) := by decide +kernel
theorem dX12_gather_44 : decode cX12_gather 44 = .ok (.iload 4, 2) := by decide +kernel
theorem dX12_gather_46 : decode cX12_gather 46 = .ok (.iaload, 1) := by decide +kernel
theorem dX12_gather_47 : decode cX12_gather 47 = .ok (.iconst (-1), 1) := by decide +kernel
theorem dX12_gather_48 : decode cX12_gather 48 = .ok (.if_icmp .eq 6, 3) := by decide +kernel
theorem dX12_gather_51 : decode cX12_gather 51 = .ok (.goto 61, 3) := by decide +kernel
theorem dX12_gather_54 : decode cX12_gather 54 = .ok (.iconst 0, 1) := by decide +kernel
theorem dX12_gather_55 : decode cX12_gather 55 = .ok (.istore 5, 2) := by decide +kernel
theorem dX12_gather_57 : decode cX12_gather 57 = .ok (.iload 5, 2) := by decide +kernel
theorem dX12_gather_59 : decode cX12_gather 59 = .ok (.aload_n 0, 1) := by decide +kernel
theorem dX12_gather_60 : decode cX12_gather 60 = .ok (.invokevirtual 90, 3) := by decide +kernel
theorem dX12_gather_63 : decode cX12_gather 63 = .ok (.if_icmp .ge 46, 3) := by decide +kernel
theorem dX12_gather_66 : decode cX12_gather 66 = .ok (.aload_n 0, 1) := by decide +kernel
theorem dX12_gather_67 : decode cX12_gather 67 = .ok (.getfield 58, 3) := by decide +kernel
theorem dX12_gather_70 : decode cX12_gather 70 = .ok (.iload 5, 2) := by decide +kernel
theorem dX12_gather_72 : decode cX12_gather 72 = .ok (.iaload, 1) := by decide +kernel
theorem dX12_gather_73 : decode cX12_gather 73 = .ok (.iconst (-1), 1) := by decide +kernel
theorem dX12_gather_74 : decode cX12_gather 74 = .ok (.if_icmp .ne 29, 3) := by decide +kernel
theorem dX12_gather_77 : decode cX12_gather 77 = .ok (.iload 5, 2) := by decide +kernel
theorem dX12_gather_79 : decode cX12_gather 79 = .ok (.iload 4, 2) := by decide +kernel
theorem dX12_gather_81 : decode cX12_gather 81 = .ok (.if_icmp .eq 14, 3) := by decide +kernel
theorem dX12_gather_84 : decode cX12_gather 84 = .ok (.aload_n 0, 1) := by decide +kernel
theorem dX12_gather_85 : decode cX12_gather 85 = .ok (.iload 4, 2) := by decide +kernel
theorem dX12_gather_87 : decode cX12_gather 87 = .ok (.iload 5, 2) := by decide +kernel
theorem dX12_gather_89 : decode cX12_gather 89 = .ok (.invokevirtual 189, 3) := by decide +kernel
theorem dX12_gather_92 : decode cX12_gather 92 = .ok (.ifCond .eq 11, 3) := by decide +kernel
theorem dX12_gather_95 : decode cX12_gather 95 = .ok (.aload_n 0, 1) := by decide +kernel
theorem dX12_gather_96 : decode cX12_gather 96 = .ok (.getfield 58, 3) := by decide +kernel
theorem dX12_gather_99 : decode cX12_gather 99 = .ok (.iload 5, 2) := by decide +kernel
theorem dX12_gather_101 : decode cX12_gather 101 = .ok (.iload_n 2, 1) := by decide +kernel
theorem dX12_gather_102 : decode cX12_gather 102 = .ok (.iastore, 1) := by decide +kernel
theorem dX12_gather_103 : decode cX12_gather 103 = .ok (.iinc 5 1, 3) := by decide +kernel
theorem dX12_gather_106 : decode cX12_gather 106 = .ok (.goto (-49), 3) := by decide +kernel
theorem dX12_gather_109 : decode cX12_gather 109 = .ok (.iinc 2 1, 3) := by decide +kernel
theorem dX12_gather_112 : decode cX12_gather 112 = .ok (.iinc 3 1, 3) := by decide +kernel
theorem dX12_gather_115 : decode cX12_gather 115 = .ok (.goto (-88), 3) := by decide +kernel
theorem dX12_gather_118 : decode cX12_gather 118 = .ok (.aload_n 0, 1) := by decide +kernel
theorem dX12_gather_119 : decode cX12_gather 119 = .ok (.aload_n 0, 1) := by decide +kernel
theorem dX12_gather_120 : decode cX12_gather 120 = .ok (.getfield 58, 3) := by decide +kernel
theorem dX12_gather_123 : decode cX12_gather 123 = .ok (.invokevirtual 147, 3) := by decide +kernel
theorem dX12_gather_126 : decode cX12_gather 126 = .ok (.pop, 1) := by decide +kernel
theorem dX12_gather_127 : decode cX12_gather 127 = .ok (.aload_n 0, 1) := by decide +kernel
theorem dX12_gather_128 : decode cX12_gather 128 = .ok (.aload_n 0, 1) := by decide +kernel
theorem dX12_gather_129 : decode cX12_gather 129 = .ok (.getfield 58, 3) := by decide +kernel
theorem dX12_gather_132 : decode cX12_gather 132 = .ok (.iconst 3, 1) := by decide +kernel
theorem dX12_gather_133 : decode cX12_gather 133 = .ok (.invokevirtual 163, 3) := by decide +kernel
theorem dX12_gather_136 : decode cX12_gather 136 = .ok (.lreturn, 1) := by decide +kernel
theorem dX12_third_0 : decode cX12_third 0 = .ok (.aload_n 0, 1) := by decide +kernel
theorem dX12_third_1 : decode cX12_third 1 = .ok (.iconst 0, 1) := by decide +kernel
theorem dX12_third_2 : decode cX12_third 2 = .ok (.putfield 77, 3) := by decide +kernel
theorem dX12_third_5 : decode cX12_third 5 = .ok (.aload_n 0, 1) := by decide +kernel
theorem dX12_third_6 : decode cX12_third 6 = .ok (.invokevirtual 102, 3) := by decide +kernel
theorem dX12_third_9 : decode cX12_third 9 = .ok (.iconst 0, 1) := by decide +kernel
theorem dX12_third_10 : decode cX12_third 10 = .ok (.istore_n 2, 1) := by decide +kernel
theorem dX12_third_11 : decode cX12_third 11 = .ok (.iload_n 2, 1) := by decide +kernel
theorem dX12_third_12 : decode cX12_third 12 = .ok (.aload_n 0, 1) := by decide +kernel
theorem dX12_third_13 : decode cX12_third 13 = .ok (.invokevirtual 90, 3) := by decide +kernel
theorem dX12_third_16 : decode cX12_third 16 = .ok (.if_icmp .ge 16, 3) := by decide +kernel
theorem dX12_third_19 : decode cX12_third 19 = .ok (.aload_n 0, 1) := by decide +kernel
theorem dX12_third_20 : decode cX12_third 20 = .ok (.getfield 70, 3) := by decide +kernel
theorem dX12_third_23 : decode cX12_third 23 = .ok (.iload_n 2, 1) := by decide +kernel
theorem dX12_third_24 : decode cX12_third 24 = .ok (.iload_n 2, 1) := by decide +kernel
theorem dX12_third_25 : decode cX12_third 25 = .ok (.iastore, 1) := by decide +kernel
theorem dX12_third_26 : decode cX12_third 26 = .ok (.iinc 2 1, 3) := by decide +kernel
theorem dX12_third_29 : decode cX12_third 29 = .ok (.goto (-18), 3) := by decide +kernel
theorem dX12_third_32 : decode cX12_third 32 = .ok (.iload_n 1, 1) := by decide +kernel
theorem dX12_third_33 : decode cX12_third 33 = .ok (.istore_n 2, 1) := by decide +kernel
theorem dX12_third_34 : decode cX12_third 34 = .ok (.aload_n 0, 1) := by decide +kernel
theorem dX12_third_35 : decode cX12_third 35 = .ok (.invokevirtual 90, 3) := by decide +kernel
theorem dX12_third_38 : decode cX12_third 38 = .ok (.iconst 1, 1) := by decide +kernel
theorem dX12_third_39 : decode cX12_third 39 = .ok (.isub, 1) := by decide +kernel
theorem dX12_third_40 : decode cX12_third 40 = .ok (.istore_n 3, 1) := by decide +kernel
theorem dX12_third_41 : decode cX12_third 41 = .ok (.iload_n 3, 1) := by decide +kernel
theorem dX12_third_42 : decode cX12_third 42 = .ok (.ifCond .le 58, 3) := by decide +kernel
theorem dX12_third_45 : decode cX12_third 45 = .ok (.iload_n 2, 1) := by decide +kernel
theorem dX12_third_46 : decode cX12_third 46 = .ok (.ldc 192, 2) := by decide +kernel
theorem dX12_third_48 : decode cX12_third 48 = .ok (.imul, 1) := by decide +kernel
theorem dX12_third_49 : decode cX12_third 49 = .ok (.sipush 12345, 3) := by decide +kernel
theorem dX12_third_52 : decode cX12_third 52 = .ok (.iadd, 1) := by decide +kernel
theorem dX12_third_53 : decode cX12_third 53 = .ok (.istore_n 2, 1) := by decide +kernel
theorem dX12_third_54 : decode cX12_third 54 = .ok (.iload_n 2, 1) := by decide +kernel
theorem dX12_third_55 : decode cX12_third 55 = .ok (.bipush 16, 2) := by decide +kernel
theorem dX12_third_57 : decode cX12_third 57 = .ok (.iushr, 1) := by decide +kernel
theorem dX12_third_58 : decode cX12_third 58 = .ok (.iload_n 3, 1) := by decide +kernel
theorem dX12_third_59 : decode cX12_third 59 = .ok (.iconst 1, 1) := by decide +kernel
theorem dX12_third_60 : decode cX12_third 60 = .ok (.iadd, 1) := by decide +kernel
theorem dX12_third_61 : decode cX12_third 61 = .ok (.irem, 1) := by decide +kernel
theorem dX12_third_62 : decode cX12_third 62 = .ok (.istore 4, 2) := by decide +kernel
theorem dX12_third_64 : decode cX12_third 64 = .ok (.aload_n 0, 1) := by decide +kernel
theorem dX12_third_65 : decode cX12_third 65 = .ok (.getfield 70, 3) := by decide +kernel
theorem dX12_third_68 : decode cX12_third 68 = .ok (.iload_n 3, 1) := by decide +kernel
theorem dX12_third_69 : decode cX12_third 69 = .ok (.iaload, 1) := by decide +kernel
theorem dX12_third_70 : decode cX12_third 70 = .ok (.istore 5, 2) := by decide +kernel
theorem dX12_third_72 : decode cX12_third 72 = .ok (.aload_n 0, 1) := by decide +kernel
theorem dX12_third_73 : decode cX12_third 73 = .ok (.getfield 70, 3) := by decide +kernel
theorem dX12_third_76 : decode cX12_third 76 = .ok (.iload_n 3, 1) := by decide +kernel
theorem dX12_third_77 : decode cX12_third 77 = .ok (.aload_n 0, 1) := by decide +kernel
theorem dX12_third_78 : decode cX12_third 78 = .ok (.getfield 70, 3) := by decide +kernel
theorem dX12_third_81 : decode cX12_third 81 = .ok (.iload 4, 2) := by decide +kernel
theorem dX12_third_83 : decode cX12_third 83 = .ok (.iaload, 1) := by decide +kernel
theorem dX12_third_84 : decode cX12_third 84 = .ok (.iastore, 1) := by decide +kernel
theorem dX12_third_85 : decode cX12_third 85 = .ok (.aload_n 0, 1) := by decide +kernel
theorem dX12_third_86 : decode cX12_third 86 = .ok (.getfield 70, 3) := by decide +kernel
theorem dX12_third_89 : decode cX12_third 89 = .ok (.iload 4, 2) := by decide +kernel
theorem dX12_third_91 : decode cX12_third 91 = .ok (.iload 5, 2) := by decide +kernel
theorem dX12_third_93 : decode cX12_third 93 = .ok (.iastore, 1) := by decide +kernel
theorem dX12_third_94 : decode cX12_third 94 = .ok (.iinc 3 (-1), 3) := by decide +kernel
theorem dX12_third_97 : decode cX12_third 97 = .ok (.goto (-56), 3) := by decide +kernel
theorem dX12_third_100 : decode cX12_third 100 = .ok (.aload_n 0, 1) := by decide +kernel
theorem dX12_third_101 : decode cX12_third 101 = .ok (.aload_n 0, 1) := by decide +kernel
theorem dX12_third_102 : decode cX12_third 102 = .ok (.getfield 70, 3) := by decide +kernel
theorem dX12_third_105 : decode cX12_third 105 = .ok (.invokevirtual 193, 3) := by decide +kernel
theorem dX12_third_108 : decode cX12_third 108 = .ok (.lstore_n 3, 1) := by decide +kernel
theorem dX12_third_109 : decode cX12_third 109 = .ok (.aload_n 0, 1) := by decide +kernel
theorem dX12_third_110 : decode cX12_third 110 = .ok (.aload_n 0, 1) := by decide +kernel
theorem dX12_third_111 : decode cX12_third 111 = .ok (.getfield 58, 3) := by decide +kernel
theorem dX12_third_114 : decode cX12_third 114 = .ok (.invokevirtual 150, 3) := by decide +kernel
theorem dX12_third_117 : decode cX12_third 117 = .ok (.lload_n 3, 1) := by decide +kernel
theorem dX12_third_118 : decode cX12_third 118 = .ok (.lreturn, 1) := by decide +kernel
theorem dX12_orders_0 : decode cX12_orders 0 = .ok (.iload_n 1, 1) := by decide +kernel
theorem dX12_orders_1 : decode cX12_orders 1 = .ok (.aload_n 0, 1) := by decide +kernel
theorem dX12_orders_2 : decode cX12_orders 2 = .ok (.invokevirtual 90, 3) := by decide +kernel
theorem dX12_orders_5 : decode cX12_orders 5 = .ok (.if_icmp .ne 12, 3) := by decide +kernel
theorem dX12_orders_8 : decode cX12_orders 8 = .ok (.aload_n 0, 1) := by decide +kernel
theorem dX12_orders_9 : decode cX12_orders 9 = .ok (.aload_n 0, 1) := by decide +kernel
theorem dX12_orders_10 : decode cX12_orders 10 = .ok (.getfield 70, 3) := by decide +kernel
theorem dX12_orders_13 : decode cX12_orders 13 = .ok (.invokevirtual 193, 3) := by decide +kernel
theorem dX12_orders_16 : decode cX12_orders 16 = .ok (.lreturn, 1) := by decide +kernel
theorem dX12_orders_17 : decode cX12_orders 17 = .ok (.lconst 0, 1) := by decide +kernel
theorem dX12_orders_18 : decode cX12_orders 18 = .ok (.lstore_n 2, 1) := by decide +kernel
theorem dX12_orders_19 : decode cX12_orders 19 = .ok (.iload_n 1, 1) := by decide +kernel
theorem dX12_orders_20 : decode cX12_orders 20 = .ok (.istore 4, 2) := by decide +kernel
theorem dX12_orders_22 : decode cX12_orders 22 = .ok (.iload 4, 2) := by decide +kernel
theorem dX12_orders_24 : decode cX12_orders 24 = .ok (.aload_n 0, 1) := by decide +kernel
theorem dX12_orders_25 : decode cX12_orders 25 = .ok (.invokevirtual 90, 3) := by decide +kernel
theorem dX12_orders_28 : decode cX12_orders 28 = .ok (.if_icmp .ge 79, 3) := by decide +kernel
theorem dX12_orders_31 : decode cX12_orders 31 = .ok (.aload_n 0, 1) := by decide +kernel
theorem dX12_orders_32 : decode cX12_orders 32 = .ok (.getfield 70, 3) := by decide +kernel
theorem dX12_orders_35 : decode cX12_orders 35 = .ok (.iload 4, 2) := by decide +kernel
theorem dX12_orders_37 : decode cX12_orders 37 = .ok (.iaload, 1) := by decide +kernel
theorem dX12_orders_38 : decode cX12_orders 38 = .ok (.istore 5, 2) := by decide +kernel
theorem dX12_orders_40 : decode cX12_orders 40 = .ok (.aload_n 0, 1) := by decide +kernel
theorem dX12_orders_41 : decode cX12_orders 41 = .ok (.getfield 70, 3) := by decide +kernel
theorem dX12_orders_44 : decode cX12_orders 44 = .ok (.iload 4, 2) := by decide +kernel
theorem dX12_orders_46 : decode cX12_orders 46 = .ok (.aload_n 0, 1) := by decide +kernel
theorem dX12_orders_47 : decode cX12_orders 47 = .ok (.getfield 70, 3) := by decide +kernel
theorem dX12_orders_50 : decode cX12_orders 50 = .ok (.iload_n 1, 1) := by decide +kernel
theorem dX12_orders_51 : decode cX12_orders 51 = .ok (.iaload, 1) := by decide +kernel
theorem dX12_orders_52 : decode cX12_orders 52 = .ok (.iastore, 1) := by decide +kernel
theorem dX12_orders_53 : decode cX12_orders 53 = .ok (.aload_n 0, 1) := by decide +kernel
theorem dX12_orders_54 : decode cX12_orders 54 = .ok (.getfield 70, 3) := by decide +kernel
theorem dX12_orders_57 : decode cX12_orders 57 = .ok (.iload_n 1, 1) := by decide +kernel
theorem dX12_orders_58 : decode cX12_orders 58 = .ok (.iload 5, 2) := by decide +kernel
theorem dX12_orders_60 : decode cX12_orders 60 = .ok (.iastore, 1) := by decide +kernel
theorem dX12_orders_61 : decode cX12_orders 61 = .ok (.lload_n 2, 1) := by decide +kernel
theorem dX12_orders_62 : decode cX12_orders 62 = .ok (.aload_n 0, 1) := by decide +kernel
theorem dX12_orders_63 : decode cX12_orders 63 = .ok (.iload_n 1, 1) := by decide +kernel
theorem dX12_orders_64 : decode cX12_orders 64 = .ok (.iconst 1, 1) := by decide +kernel
theorem dX12_orders_65 : decode cX12_orders 65 = .ok (.iadd, 1) := by decide +kernel
theorem dX12_orders_66 : decode cX12_orders 66 = .ok (.invokevirtual 197, 3) := by decide +kernel
theorem dX12_orders_69 : decode cX12_orders 69 = .ok (.ladd, 1) := by decide +kernel
theorem dX12_orders_70 : decode cX12_orders 70 = .ok (.lstore_n 2, 1) := by decide +kernel
theorem dX12_orders_71 : decode cX12_orders 71 = .ok (.aload_n 0, 1) := by decide +kernel
theorem dX12_orders_72 : decode cX12_orders 72 = .ok (.getfield 70, 3) := by decide +kernel
theorem dX12_orders_75 : decode cX12_orders 75 = .ok (.iload 4, 2) := by decide +kernel
theorem dX12_orders_77 : decode cX12_orders 77 = .ok (.iaload, 1) := by decide +kernel
theorem dX12_orders_78 : decode cX12_orders 78 = .ok (.istore 5, 2) := by decide +kernel
theorem dX12_orders_80 : decode cX12_orders 80 = .ok (.aload_n 0, 1) := by decide +kernel
theorem dX12_orders_81 : decode cX12_orders 81 = .ok (.getfield 70, 3) := by decide +kernel
theorem dX12_orders_84 : decode cX12_orders 84 = .ok (.iload 4, 2) := by decide +kernel
theorem dX12_orders_86 : decode cX12_orders 86 = .ok (.aload_n 0, 1) := by decide +kernel
theorem dX12_orders_87 : decode cX12_orders 87 = .ok (.getfield 70, 3) := by decide +kernel
theorem dX12_orders_90 : decode cX12_orders 90 = .ok (.iload_n 1, 1) := by decide +kernel
theorem dX12_orders_91 : decode cX12_orders 91 = .ok (.iaload, 1) := by decide +kernel
theorem dX12_orders_92 : decode cX12_orders 92 = .ok (.iastore, 1) := by decide +kernel
theorem dX12_orders_93 : decode cX12_orders 93 = .ok (.aload_n 0, 1) := by decide +kernel
theorem dX12_orders_94 : decode cX12_orders 94 = .ok (.getfield 70, 3) := by decide +kernel
theorem dX12_orders_97 : decode cX12_orders 97 = .ok (.iload_n 1, 1) := by decide +kernel
theorem dX12_orders_98 : decode cX12_orders 98 = .ok (.iload 5, 2) := by decide +kernel
theorem dX12_orders_100 : decode cX12_orders 100 = .ok (.iastore, 1) := by decide +kernel
theorem dX12_orders_101 : decode cX12_orders 101 = .ok (.iinc 4 1, 3) := by decide +kernel
theorem dX12_orders_104 : decode cX12_orders 104 = .ok (.goto (-82), 3) := by decide +kernel
theorem dX12_orders_107 : decode cX12_orders 107 = .ok (.lload_n 2, 1) := by decide +kernel
theorem dX12_orders_108 : decode cX12_orders 108 = .ok (.lreturn, 1) := by decide +kernel
theorem dX12_thirds_0 : decode cX12_thirds 0 = .ok (.aload_n 0, 1) := by decide +kernel
theorem dX12_thirds_1 : decode cX12_thirds 1 = .ok (.iconst 0, 1) := by decide +kernel
theorem dX12_thirds_2 : decode cX12_thirds 2 = .ok (.putfield 77, 3) := by decide +kernel
theorem dX12_thirds_5 : decode cX12_thirds 5 = .ok (.aload_n 0, 1) := by decide +kernel
theorem dX12_thirds_6 : decode cX12_thirds 6 = .ok (.invokevirtual 90, 3) := by decide +kernel
theorem dX12_thirds_9 : decode cX12_thirds 9 = .ok (.bipush 7, 2) := by decide +kernel
theorem dX12_thirds_11 : decode cX12_thirds 11 = .ok (.if_icmp .le 10, 3) := by decide +kernel
theorem dX12_thirds_14 : decode cX12_thirds 14 = .ok (.aload_n 0, 1) := by decide +kernel
theorem dX12_thirds_15 : decode cX12_thirds 15 = .ok (.iconst 3, 1) := by decide +kernel
theorem dX12_thirds_16 : decode cX12_thirds 16 = .ok (.invokevirtual 98, 3) := by decide +kernel
theorem dX12_thirds_19 : decode cX12_thirds 19 = .ok (.i2l, 1) := by decide +kernel
theorem dX12_thirds_20 : decode cX12_thirds 20 = .ok (.lreturn, 1) := by decide +kernel
theorem dX12_thirds_21 : decode cX12_thirds 21 = .ok (.iconst 0, 1) := by decide +kernel
theorem dX12_thirds_22 : decode cX12_thirds 22 = .ok (.istore_n 1, 1) := by decide +kernel
theorem dX12_thirds_23 : decode cX12_thirds 23 = .ok (.iload_n 1, 1) := by decide +kernel
theorem dX12_thirds_24 : decode cX12_thirds 24 = .ok (.aload_n 0, 1) := by decide +kernel
theorem dX12_thirds_25 : decode cX12_thirds 25 = .ok (.invokevirtual 90, 3) := by decide +kernel
theorem dX12_thirds_28 : decode cX12_thirds 28 = .ok (.if_icmp .ge 16, 3) := by decide +kernel
theorem dX12_thirds_31 : decode cX12_thirds 31 = .ok (.aload_n 0, 1) := by decide +kernel
theorem dX12_thirds_32 : decode cX12_thirds 32 = .ok (.getfield 70, 3) := by decide +kernel
theorem dX12_thirds_35 : decode cX12_thirds 35 = .ok (.iload_n 1, 1) := by decide +kernel
theorem dX12_thirds_36 : decode cX12_thirds 36 = .ok (.iload_n 1, 1) := by decide +kernel
theorem dX12_thirds_37 : decode cX12_thirds 37 = .ok (.iastore, 1) := by decide +kernel
theorem dX12_thirds_38 : decode cX12_thirds 38 = .ok (.iinc 1 1, 3) := by decide +kernel
theorem dX12_thirds_41 : decode cX12_thirds 41 = .ok (.goto (-18), 3) := by decide +kernel
theorem dX12_thirds_44 : decode cX12_thirds 44 = .ok (.aload_n 0, 1) := by decide +kernel
theorem dX12_thirds_45 : decode cX12_thirds 45 = .ok (.iconst 0, 1) := by decide +kernel
theorem dX12_thirds_46 : decode cX12_thirds 46 = .ok (.invokevirtual 197, 3) := by decide +kernel
theorem dX12_thirds_49 : decode cX12_thirds 49 = .ok (.lreturn, 1) := by decide +kernel
theorem dX12_rounds_0 : decode cX12_rounds 0 = .ok (.aload_n 0, 1) := by decide +kernel
theorem dX12_rounds_1 : decode cX12_rounds 1 = .ok (.iconst 0, 1) := by decide +kernel
theorem dX12_rounds_2 : decode cX12_rounds 2 = .ok (.putfield 77, 3) := by decide +kernel
theorem dX12_rounds_5 : decode cX12_rounds 5 = .ok (.iconst 0, 1) := by decide +kernel
theorem dX12_rounds_6 : decode cX12_rounds 6 = .ok (.istore_n 1, 1) := by decide +kernel
theorem dX12_rounds_7 : decode cX12_rounds 7 = .ok (.iconst 0, 1) := by decide +kernel
theorem dX12_rounds_8 : decode cX12_rounds 8 = .ok (.istore_n 2, 1) := by decide +kernel
theorem dX12_rounds_9 : decode cX12_rounds 9 = .ok (.iload_n 2, 1) := by decide +kernel
theorem dX12_rounds_10 : decode cX12_rounds 10 = .ok (.aload_n 0, 1) := by decide +kernel
theorem dX12_rounds_11 : decode cX12_rounds 11 = .ok (.invokevirtual 90, 3) := by decide +kernel
theorem dX12_rounds_14 : decode cX12_rounds 14 = .ok (.if_icmp .ge 151, 3) := by decide +kernel
theorem dX12_rounds_17 : decode cX12_rounds 17 = .ok (.iload_n 2, 1) := by decide +kernel
theorem dX12_rounds_18 : decode cX12_rounds 18 = .ok (.iconst 1, 1) := by decide +kernel
theorem dX12_rounds_19 : decode cX12_rounds 19 = .ok (.iadd, 1) := by decide +kernel
theorem dX12_rounds_20 : decode cX12_rounds 20 = .ok (.istore_n 3, 1) := by decide +kernel
theorem dX12_rounds_21 : decode cX12_rounds 21 = .ok (.iload_n 3, 1) := by decide +kernel
theorem dX12_rounds_22 : decode cX12_rounds 22 = .ok (.aload_n 0, 1) := by decide +kernel
theorem dX12_rounds_23 : decode cX12_rounds 23 = .ok (.invokevirtual 90, 3) := by decide +kernel
theorem dX12_rounds_26 : decode cX12_rounds 26 = .ok (.if_icmp .ge 133, 3) := by decide +kernel
theorem dX12_rounds_29 : decode cX12_rounds 29 = .ok (.iload_n 3, 1) := by decide +kernel
theorem dX12_rounds_30 : decode cX12_rounds 30 = .ok (.iconst 1, 1) := by decide +kernel
theorem dX12_rounds_31 : decode cX12_rounds 31 = .ok (.iadd, 1) := by decide +kernel
theorem dX12_rounds_32 : decode cX12_rounds 32 = .ok (.istore 4, 2) := by decide +kernel
theorem dX12_rounds_34 : decode cX12_rounds 34 = .ok (.iload 4, 2) := by decide +kernel
theorem dX12_rounds_36 : decode cX12_rounds 36 = .ok (.aload_n 0, 1) := by decide +kernel
theorem dX12_rounds_37 : decode cX12_rounds 37 = .ok (.invokevirtual 90, 3) := by decide +kernel
theorem dX12_rounds_40 : decode cX12_rounds 40 = .ok (.if_icmp .ge 113, 3) := by decide +kernel
theorem dX12_rounds_43 : decode cX12_rounds 43 = .ok (.aload_n 0, 1) := by decide +kernel
theorem dX12_rounds_44 : decode cX12_rounds 44 = .ok (.getfield 19, 3) := by decide +kernel
theorem dX12_rounds_47 : decode cX12_rounds 47 = .ok (.bipush 12, 2) := by decide +kernel
theorem dX12_rounds_49 : decode cX12_rounds 49 = .ok (.iload_n 2, 1) := by decide +kernel
theorem dX12_rounds_50 : decode cX12_rounds 50 = .ok (.imul, 1) := by decide +kernel
theorem dX12_rounds_51 : decode cX12_rounds 51 = .ok (.iload_n 3, 1) := by decide +kernel
theorem dX12_rounds_52 : decode cX12_rounds 52 = .ok (.iadd, 1) := by decide +kernel
theorem dX12_rounds_53 : decode cX12_rounds 53 = .ok (.iaload, 1) := by decide +kernel
theorem dX12_rounds_54 : decode cX12_rounds 54 = .ok (.ifCond .eq 93, 3) := by decide +kernel
theorem dX12_rounds_57 : decode cX12_rounds 57 = .ok (.aload_n 0, 1) := by decide +kernel
theorem dX12_rounds_58 : decode cX12_rounds 58 = .ok (.getfield 19, 3) := by decide +kernel
theorem dX12_rounds_61 : decode cX12_rounds 61 = .ok (.bipush 12, 2) := by decide +kernel
theorem dX12_rounds_63 : decode cX12_rounds 63 = .ok (.iload_n 2, 1) := by decide +kernel
theorem dX12_rounds_64 : decode cX12_rounds 64 = .ok (.imul, 1) := by decide +kernel
theorem dX12_rounds_65 : decode cX12_rounds 65 = .ok (.iload 4, 2) := by decide +kernel
theorem dX12_rounds_67 : decode cX12_rounds 67 = .ok (.iadd, 1) := by decide +kernel
theorem dX12_rounds_68 : decode cX12_rounds 68 = .ok (.iaload, 1) := by decide +kernel
theorem dX12_rounds_69 : decode cX12_rounds 69 = .ok (.ifCond .eq 78, 3) := by decide +kernel
theorem dX12_rounds_72 : decode cX12_rounds 72 = .ok (.aload_n 0, 1) := by decide +kernel
theorem dX12_rounds_73 : decode cX12_rounds 73 = .ok (.getfield 19, 3) := by decide +kernel
theorem dX12_rounds_76 : decode cX12_rounds 76 = .ok (.bipush 12, 2) := by decide +kernel
theorem dX12_rounds_78 : decode cX12_rounds 78 = .ok (.iload_n 3, 1) := by decide +kernel
theorem dX12_rounds_79 : decode cX12_rounds 79 = .ok (.imul, 1) := by decide +kernel
theorem dX12_rounds_80 : decode cX12_rounds 80 = .ok (.iload 4, 2) := by decide +kernel
theorem dX12_rounds_82 : decode cX12_rounds 82 = .ok (.iadd, 1) := by decide +kernel
theorem dX12_rounds_83 : decode cX12_rounds 83 = .ok (.iaload, 1) := by decide +kernel
theorem dX12_rounds_84 : decode cX12_rounds 84 = .ok (.ifCond .ne 6, 3) := by decide +kernel
theorem dX12_rounds_87 : decode cX12_rounds 87 = .ok (.goto 60, 3) := by decide +kernel
theorem dX12_rounds_90 : decode cX12_rounds 90 = .ok (.aload_n 0, 1) := by decide +kernel
theorem dX12_rounds_91 : decode cX12_rounds 91 = .ok (.iload_n 2, 1) := by decide +kernel
theorem dX12_rounds_92 : decode cX12_rounds 92 = .ok (.iload_n 3, 1) := by decide +kernel
theorem dX12_rounds_93 : decode cX12_rounds 93 = .ok (.invokevirtual 189, 3) := by decide +kernel
theorem dX12_rounds_96 : decode cX12_rounds 96 = .ok (.ifCond .eq 7, 3) := by decide +kernel
theorem dX12_rounds_99 : decode cX12_rounds 99 = .ok (.iconst 1, 1) := by decide +kernel
theorem dX12_rounds_100 : decode cX12_rounds 100 = .ok (.goto 4, 3) := by decide +kernel
theorem dX12_rounds_103 : decode cX12_rounds 103 = .ok (.iconst 0, 1) := by decide +kernel
theorem dX12_rounds_104 : decode cX12_rounds 104 = .ok (.aload_n 0, 1) := by decide +kernel
theorem dX12_rounds_105 : decode cX12_rounds 105 = .ok (.iload_n 2, 1) := by decide +kernel
theorem dX12_rounds_106 : decode cX12_rounds 106 = .ok (.iload 4, 2) := by decide +kernel
theorem dX12_rounds_108 : decode cX12_rounds 108 = .ok (.invokevirtual 189, 3) := by decide +kernel
theorem dX12_rounds_111 : decode cX12_rounds 111 = .ok (.ifCond .eq 7, 3) := by decide +kernel
theorem dX12_rounds_114 : decode cX12_rounds 114 = .ok (.iconst 1, 1) := by decide +kernel
theorem dX12_rounds_115 : decode cX12_rounds 115 = .ok (.goto 4, 3) := by decide +kernel
theorem dX12_rounds_118 : decode cX12_rounds 118 = .ok (.iconst 0, 1) := by decide +kernel
theorem dX12_rounds_119 : decode cX12_rounds 119 = .ok (.iadd, 1) := by decide +kernel
theorem dX12_rounds_120 : decode cX12_rounds 120 = .ok (.aload_n 0, 1) := by decide +kernel
theorem dX12_rounds_121 : decode cX12_rounds 121 = .ok (.iload_n 3, 1) := by decide +kernel
theorem dX12_rounds_122 : decode cX12_rounds 122 = .ok (.iload 4, 2) := by decide +kernel
theorem dX12_rounds_124 : decode cX12_rounds 124 = .ok (.invokevirtual 189, 3) := by decide +kernel
theorem dX12_rounds_127 : decode cX12_rounds 127 = .ok (.ifCond .eq 7, 3) := by decide +kernel
theorem dX12_rounds_130 : decode cX12_rounds 130 = .ok (.iconst 1, 1) := by decide +kernel
theorem dX12_rounds_131 : decode cX12_rounds 131 = .ok (.goto 4, 3) := by decide +kernel
theorem dX12_rounds_134 : decode cX12_rounds 134 = .ok (.iconst 0, 1) := by decide +kernel
theorem dX12_rounds_135 : decode cX12_rounds 135 = .ok (.iadd, 1) := by decide +kernel
theorem dX12_rounds_136 : decode cX12_rounds 136 = .ok (.istore 5, 2) := by decide +kernel
theorem dX12_rounds_138 : decode cX12_rounds 138 = .ok (.iload 5, 2) := by decide +kernel
theorem dX12_rounds_140 : decode cX12_rounds 140 = .ok (.iconst 2, 1) := by decide +kernel
theorem dX12_rounds_141 : decode cX12_rounds 141 = .ok (.if_icmp .ne 6, 3) := by decide +kernel
theorem dX12_rounds_144 : decode cX12_rounds 144 = .ok (.iinc 1 1, 3) := by decide +kernel
theorem dX12_rounds_147 : decode cX12_rounds 147 = .ok (.iinc 4 1, 3) := by decide +kernel
theorem dX12_rounds_150 : decode cX12_rounds 150 = .ok (.goto (-116), 3) := by decide +kernel
theorem dX12_rounds_153 : decode cX12_rounds 153 = .ok (.iinc 3 1, 3) := by decide +kernel
theorem dX12_rounds_156 : decode cX12_rounds 156 = .ok (.goto (-135), 3) := by decide +kernel
theorem dX12_rounds_159 : decode cX12_rounds 159 = .ok (.iinc 2 1, 3) := by decide +kernel
theorem dX12_rounds_162 : decode cX12_rounds 162 = .ok (.goto (-153), 3) := by decide +kernel
theorem dX12_rounds_165 : decode cX12_rounds 165 = .ok (.iload_n 1, 1) := by decide +kernel
theorem dX12_rounds_166 : decode cX12_rounds 166 = .ok (.ireturn, 1) := by decide +kernel
theorem dX12_heightOf_0 : decode cX12_heightOf 0 = .ok (.iconst (-1), 1) := by decide +kernel
theorem dX12_heightOf_1 : decode cX12_heightOf 1 = .ok (.istore 4, 2) := by decide +kernel
theorem dX12_heightOf_3 : decode cX12_heightOf 3 = .ok (.iconst 0, 1) := by decide +kernel
theorem dX12_heightOf_4 : decode cX12_heightOf 4 = .ok (.istore 5, 2) := by decide +kernel
theorem dX12_heightOf_6 : decode cX12_heightOf 6 = .ok (.iload 5, 2) := by decide +kernel
theorem dX12_heightOf_8 : decode cX12_heightOf 8 = .ok (.aload_n 0, 1) := by decide +kernel
theorem dX12_heightOf_9 : decode cX12_heightOf 9 = .ok (.invokevirtual 90, 3) := by decide +kernel
theorem dX12_heightOf_12 : decode cX12_heightOf 12 = .ok (.if_icmp .ge 101, 3) := by decide +kernel
theorem dX12_heightOf_15 : decode cX12_heightOf 15 = .ok (.iconst 0, 1) := by decide +kernel
theorem dX12_heightOf_16 : decode cX12_heightOf 16 = .ok (.istore 6, 2) := by decide +kernel
theorem dX12_heightOf_18 : decode cX12_heightOf 18 = .ok (.iload 6, 2) := by decide +kernel
theorem dX12_heightOf_20 : decode cX12_heightOf 20 = .ok (.aload_n 0, 1) := by decide +kernel
theorem dX12_heightOf_21 : decode cX12_heightOf 21 = .ok (.invokevirtual 90, 3) := by decide +kernel
theorem dX12_heightOf_24 : decode cX12_heightOf 24 = .ok (.if_icmp .ge 83, 3) := by decide +kernel
theorem dX12_heightOf_27 : decode cX12_heightOf 27 = .ok (.aload_n 0, 1) := by decide +kernel
theorem dX12_heightOf_28 : decode cX12_heightOf 28 = .ok (.getfield 58, 3) := by decide +kernel
theorem dX12_heightOf_31 : decode cX12_heightOf 31 = .ok (.iload 5, 2) := by decide +kernel
theorem dX12_heightOf_33 : decode cX12_heightOf 33 = .ok (.iaload, 1) := by decide +kernel
theorem dX12_heightOf_34 : decode cX12_heightOf 34 = .ok (.iload_n 2, 1) := by decide +kernel
theorem dX12_heightOf_35 : decode cX12_heightOf 35 = .ok (.if_icmp .ne 66, 3) := by decide +kernel
theorem dX12_heightOf_38 : decode cX12_heightOf 38 = .ok (.aload_n 0, 1) := by decide +kernel
theorem dX12_heightOf_39 : decode cX12_heightOf 39 = .ok (.getfield 58, 3) := by decide +kernel
theorem dX12_heightOf_42 : decode cX12_heightOf 42 = .ok (.iload 6, 2) := by decide +kernel
theorem dX12_heightOf_44 : decode cX12_heightOf 44 = .ok (.iaload, 1) := by decide +kernel
theorem dX12_heightOf_45 : decode cX12_heightOf 45 = .ok (.iload_n 3, 1) := by decide +kernel
theorem dX12_heightOf_46 : decode cX12_heightOf 46 = .ok (.if_icmp .eq 6, 3) := by decide +kernel
theorem dX12_heightOf_49 : decode cX12_heightOf 49 = .ok (.goto 52, 3) := by decide +kernel
theorem dX12_heightOf_52 : decode cX12_heightOf 52 = .ok (.aload_n 0, 1) := by decide +kernel
theorem dX12_heightOf_53 : decode cX12_heightOf 53 = .ok (.getfield 16, 3) := by decide +kernel
theorem dX12_heightOf_56 : decode cX12_heightOf 56 = .ok (.bipush 12, 2) := by decide +kernel
theorem dX12_heightOf_58 : decode cX12_heightOf 58 = .ok (.iload 5, 2) := by decide +kernel
theorem dX12_heightOf_60 : decode cX12_heightOf 60 = .ok (.imul, 1) := by decide +kernel
theorem dX12_heightOf_61 : decode cX12_heightOf 61 = .ok (.iload 6, 2) := by decide +kernel
theorem dX12_heightOf_63 : decode cX12_heightOf 63 = .ok (.iadd, 1) := by decide +kernel
theorem dX12_heightOf_64 : decode cX12_heightOf 64 = .ok (.iaload, 1) := by decide +kernel
theorem dX12_heightOf_65 : decode cX12_heightOf 65 = .ok (.istore 7, 2) := by decide +kernel
theorem dX12_heightOf_67 : decode cX12_heightOf 67 = .ok (.iload 4, 2) := by decide +kernel
theorem dX12_heightOf_69 : decode cX12_heightOf 69 = .ok (.iconst (-1), 1) := by decide +kernel
theorem dX12_heightOf_70 : decode cX12_heightOf 70 = .ok (.if_icmp .ne 8, 3) := by decide +kernel
theorem dX12_heightOf_73 : decode cX12_heightOf 73 = .ok (.iload 7, 2) := by decide +kernel
theorem dX12_heightOf_75 : decode cX12_heightOf 75 = .ok (.goto 24, 3) := by decide +kernel
theorem dX12_heightOf_78 : decode cX12_heightOf 78 = .ok (.iload_n 1, 1) := by decide +kernel
theorem dX12_heightOf_79 : decode cX12_heightOf 79 = .ok (.ifCond .ne 13, 3) := by decide +kernel
theorem dX12_heightOf_82 : decode cX12_heightOf 82 = .ok (.iload 4, 2) := by decide +kernel
theorem dX12_heightOf_84 : decode cX12_heightOf 84 = .ok (.iload 7, 2) := by decide +kernel
theorem dX12_heightOf_86 : decode cX12_heightOf 86 = .ok (.invokestatic 201, 3) := by decide +kernel
theorem dX12_heightOf_89 : decode cX12_heightOf 89 = .ok (.goto 10, 3) := by decide +kernel
theorem dX12_heightOf_92 : decode cX12_heightOf 92 = .ok (.iload 4, 2) := by decide +kernel
theorem dX12_heightOf_94 : decode cX12_heightOf 94 = .ok (.iload 7, 2) := by decide +kernel
theorem dX12_heightOf_96 : decode cX12_heightOf 96 = .ok (.invokestatic 125, 3) := by decide +kernel
theorem dX12_heightOf_99 : decode cX12_heightOf 99 = .ok (.istore 4, 2) := by decide +kernel
theorem dX12_heightOf_101 : decode cX12_heightOf 101 = .ok (.iinc 6 1, 3) := by decide +kernel
theorem dX12_heightOf_104 : decode cX12_heightOf 104 = .ok (.goto (-86), 3) := by decide +kernel
theorem dX12_heightOf_107 : decode cX12_heightOf 107 = .ok (.iinc 5 1, 3) := by decide +kernel
theorem dX12_heightOf_110 : decode cX12_heightOf 110 = .ok (.goto (-104), 3) := by decide +kernel
theorem dX12_heightOf_113 : decode cX12_heightOf 113 = .ok (.iload 4, 2) := by decide +kernel
theorem dX12_heightOf_115 : decode cX12_heightOf 115 = .ok (.ireturn, 1) := by decide +kernel
theorem dX12_tree_0 : decode cX12_tree 0 = .ok (.aload_n 0, 1) := by decide +kernel
theorem dX12_tree_1 : decode cX12_tree 1 = .ok (.iconst 0, 1) := by decide +kernel
theorem dX12_tree_2 : decode cX12_tree 2 = .ok (.putfield 77, 3) := by decide +kernel
theorem dX12_tree_5 : decode cX12_tree 5 = .ok (.iload_n 1, 1) := by decide +kernel
theorem dX12_tree_6 : decode cX12_tree 6 = .ok (.ifCond .lt 8, 3) := by decide +kernel
theorem dX12_tree_9 : decode cX12_tree 9 = .ok (.iload_n 1, 1) := by decide +kernel
theorem dX12_tree_10 : decode cX12_tree 10 = .ok (.iconst 1, 1) := by decide +kernel
theorem dX12_tree_11 : decode cX12_tree 11 = .ok (.if_icmp .le 9, 3) := by decide +kernel
theorem dX12_tree_14 : decode cX12_tree 14 = .ok (.aload_n 0, 1) := by decide +kernel
theorem dX12_tree_15 : decode cX12_tree 15 = .ok (.iconst 1, 1) := by decide +kernel
theorem dX12_tree_16 : decode cX12_tree 16 = .ok (.invokevirtual 98, 3) := by decide +kernel
theorem dX12_tree_19 : decode cX12_tree 19 = .ok (.ireturn, 1) := by decide +kernel
theorem dX12_tree_20 : decode cX12_tree 20 = .ok (.iconst 0, 1) := by decide +kernel
theorem dX12_tree_21 : decode cX12_tree 21 = .ok (.istore_n 2, 1) := by decide +kernel
theorem dX12_tree_22 : decode cX12_tree 22 = .ok (.iload_n 2, 1) := by decide +kernel
theorem dX12_tree_23 : decode cX12_tree 23 = .ok (.aload_n 0, 1) := by decide +kernel
theorem dX12_tree_24 : decode cX12_tree 24 = .ok (.invokevirtual 90, 3) := by decide +kernel
theorem dX12_tree_27 : decode cX12_tree 27 = .ok (.if_icmp .ge 16, 3) := by decide +kernel
theorem dX12_tree_30 : decode cX12_tree 30 = .ok (.aload_n 0, 1) := by decide +kernel
theorem dX12_tree_31 : decode cX12_tree 31 = .ok (.getfield 58, 3) := by decide +kernel
theorem dX12_tree_34 : decode cX12_tree 34 = .ok (.iload_n 2, 1) := by decide +kernel
theorem dX12_tree_35 : decode cX12_tree 35 = .ok (.iload_n 2, 1) := by decide +kernel
theorem dX12_tree_36 : decode cX12_tree 36 = .ok (.iastore, 1) := by decide +kernel
theorem dX12_tree_37 : decode cX12_tree 37 = .ok (.iinc 2 1, 3) := by decide +kernel
theorem dX12_tree_40 : decode cX12_tree 40 = .ok (.goto (-18), 3) := by decide +kernel
theorem dX12_tree_43 : decode cX12_tree 43 = .ok (.aload_n 0, 1) := by decide +kernel
theorem dX12_tree_44 : decode cX12_tree 44 = .ok (.iconst 0, 1) := by decide +kernel
theorem dX12_tree_45 : decode cX12_tree 45 = .ok (.putfield 37, 3) := by decide +kernel
theorem dX12_tree_48 : decode cX12_tree 48 = .ok (.aload_n 0, 1) := by decide +kernel
theorem dX12_tree_49 : decode cX12_tree 49 = .ok (.getfield 37, 3) := by decide +kernel
theorem dX12_tree_52 : decode cX12_tree 52 = .ok (.aload_n 0, 1) := by decide +kernel
theorem dX12_tree_53 : decode cX12_tree 53 = .ok (.invokevirtual 90, 3) := by decide +kernel
theorem dX12_tree_56 : decode cX12_tree 56 = .ok (.iconst 1, 1) := by decide +kernel
theorem dX12_tree_57 : decode cX12_tree 57 = .ok (.isub, 1) := by decide +kernel
theorem dX12_tree_58 : decode cX12_tree 58 = .ok (.if_icmp .ge 193, 3) := by decide +kernel
theorem dX12_tree_61 : decode cX12_tree 61 = .ok (.iconst (-1), 1) := by decide +kernel
theorem dX12_tree_62 : decode cX12_tree 62 = .ok (.istore_n 2, 1) := by decide +kernel
theorem dX12_tree_63 : decode cX12_tree 63 = .ok (.iconst (-1), 1) := by decide +kernel
theorem dX12_tree_64 : decode cX12_tree 64 = .ok (.istore_n 3, 1) := by decide +kernel
theorem dX12_tree_65 : decode cX12_tree 65 = .ok (.iconst 0, 1) := by decide +kernel
theorem dX12_tree_66 : decode cX12_tree 66 = .ok (.istore 4, 2) := by decide +kernel
theorem dX12_tree_68 : decode cX12_tree 68 = .ok (.iconst 0, 1) := by decide +kernel
theorem dX12_tree_69 : decode cX12_tree 69 = .ok (.istore 5, 2) := by decide +kernel
theorem dX12_tree_71 : decode cX12_tree 71 = .ok (.iload 5, 2) := by decide +kernel
theorem dX12_tree_73 : decode cX12_tree 73 = .ok (.aload_n 0, 1) := by decide +kernel
theorem dX12_tree_74 : decode cX12_tree 74 = .ok (.invokevirtual 90, 3) := by decide +kernel
theorem dX12_tree_77 : decode cX12_tree 77 = .ok (.if_icmp .ge 93, 3) := by decide +kernel
theorem dX12_tree_80 : decode cX12_tree 80 = .ok (.iload 5, 2) := by decide +kernel
theorem dX12_tree_82 : decode cX12_tree 82 = .ok (.iconst 1, 1) := by decide +kernel
theorem dX12_tree_83 : decode cX12_tree 83 = .ok (.iadd, 1) := by decide +kernel
theorem dX12_tree_84 : decode cX12_tree 84 = .ok (.istore 6, 2) := by decide +kernel
theorem dX12_tree_86 : decode cX12_tree 86 = .ok (.iload 6, 2) := by decide +kernel
theorem dX12_tree_88 : decode cX12_tree 88 = .ok (.aload_n 0, 1) := by decide +kernel
theorem dX12_tree_89 : decode cX12_tree 89 = .ok (.invokevirtual 90, 3) := by decide +kernel
theorem dX12_tree_92 : decode cX12_tree 92 = .ok (.if_icmp .ge 72, 3) := by decide +kernel
theorem dX12_tree_95 : decode cX12_tree 95 = .ok (.aload_n 0, 1) := by decide +kernel
theorem dX12_tree_96 : decode cX12_tree 96 = .ok (.getfield 58, 3) := by decide +kernel
theorem dX12_tree_99 : decode cX12_tree 99 = .ok (.iload 5, 2) := by decide +kernel
theorem dX12_tree_101 : decode cX12_tree 101 = .ok (.iaload, 1) := by decide +kernel
theorem dX12_tree_102 : decode cX12_tree 102 = .ok (.iload 5, 2) := by decide +kernel
theorem dX12_tree_104 : decode cX12_tree 104 = .ok (.if_icmp .ne 60, 3) := by decide +kernel
theorem dX12_tree_107 : decode cX12_tree 107 = .ok (.aload_n 0, 1) := by decide +kernel
theorem dX12_tree_108 : decode cX12_tree 108 = .ok (.getfield 58, 3) := by decide +kernel
theorem dX12_tree_111 : decode cX12_tree 111 = .ok (.iload 6, 2) := by decide +kernel
theorem dX12_tree_113 : decode cX12_tree 113 = .ok (.iaload, 1) := by decide +kernel
theorem dX12_tree_114 : decode cX12_tree 114 = .ok (.iload 6, 2) := by decide +kernel
theorem dX12_tree_116 : decode cX12_tree 116 = .ok (.if_icmp .eq 6, 3) := by decide +kernel
theorem dX12_tree_119 : decode cX12_tree 119 = .ok (.goto 39, 3) := by decide +kernel
theorem dX12_tree_122 : decode cX12_tree 122 = .ok (.aload_n 0, 1) := by decide +kernel
theorem dX12_tree_123 : decode cX12_tree 123 = .ok (.iload_n 1, 1) := by decide +kernel
theorem dX12_tree_124 : decode cX12_tree 124 = .ok (.iload 5, 2) := by decide +kernel
theorem dX12_tree_126 : decode cX12_tree 126 = .ok (.iload 6, 2) := by decide +kernel
theorem dX12_tree_128 : decode cX12_tree 128 = .ok (.invokevirtual 204, 3) := by decide +kernel
theorem dX12_tree_131 : decode cX12_tree 131 = .ok (.istore 7, 2) := by decide +kernel
theorem dX12_tree_133 : decode cX12_tree 133 = .ok (.iload_n 2, 1) := by decide +kernel
theorem dX12_tree_134 : decode cX12_tree 134 = .ok (.iconst (-1), 1) := by decide +kernel
theorem dX12_tree_135 : decode cX12_tree 135 = .ok (.if_icmp .eq 13, 3) := by decide +kernel
theorem dX12_tree_138 : decode cX12_tree 138 = .ok (.iload 7, 2) := by decide +kernel
theorem dX12_tree_140 : decode cX12_tree 140 = .ok (.iload 4, 2) := by decide +kernel
theorem dX12_tree_142 : decode cX12_tree 142 = .ok (.if_icmp .lt 6, 3) := by decide +kernel
theorem dX12_tree_145 : decode cX12_tree 145 = .ok (.goto 13, 3) := by decide +kernel
theorem dX12_tree_148 : decode cX12_tree 148 = .ok (.iload 5, 2) := by decide +kernel
theorem dX12_tree_150 : decode cX12_tree 150 = .ok (.istore_n 2, 1) := by decide +kernel
theorem dX12_tree_151 : decode cX12_tree 151 = .ok (.iload 6, 2) := by decide +kernel
theorem dX12_tree_153 : decode cX12_tree 153 = .ok (.istore_n 3, 1) := by decide +kernel
theorem dX12_tree_154 : decode cX12_tree 154 = .ok (.iload 7, 2) := by decide +kernel
theorem dX12_tree_156 : decode cX12_tree 156 = .ok (.istore 4, 2) := by decide +kernel
theorem dX12_tree_158 : decode cX12_tree 158 = .ok (.iinc 6 1, 3) := by decide +kernel
theorem dX12_tree_161 : decode cX12_tree 161 = .ok (.goto (-75), 3) := by decide +kernel
theorem dX12_tree_164 : decode cX12_tree 164 = .ok (.iinc 5 1, 3) := by decide +kernel
theorem dX12_tree_167 : decode cX12_tree 167 = .ok (.goto (-96), 3) := by decide +kernel
theorem dX12_tree_170 : decode cX12_tree 170 = .ok (.aload_n 0, 1) := by decide +kernel
theorem dX12_tree_171 : decode cX12_tree 171 = .ok (.getfield 40, 3) := by decide +kernel
theorem dX12_tree_174 : decode cX12_tree 174 = .ok (.aload_n 0, 1) := by decide +kernel
theorem dX12_tree_175 : decode cX12_tree 175 = .ok (.getfield 37, 3) := by decide +kernel
theorem dX12_tree_178 : decode cX12_tree 178 = .ok (.iload_n 2, 1) := by decide +kernel
theorem dX12_tree_179 : decode cX12_tree 179 = .ok (.iastore, 1) := by decide +kernel
theorem dX12_tree_180 : decode cX12_tree 180 = .ok (.aload_n 0, 1) := by decide +kernel
theorem dX12_tree_181 : decode cX12_tree 181 = .ok (.getfield 43, 3) := by decide +kernel
theorem dX12_tree_184 : decode cX12_tree 184 = .ok (.aload_n 0, 1) := by decide +kernel
theorem dX12_tree_185 : decode cX12_tree 185 = .ok (.getfield 37, 3) := by decide +kernel
theorem dX12_tree_188 : decode cX12_tree 188 = .ok (.iload_n 3, 1) := by decide +kernel
theorem dX12_tree_189 : decode cX12_tree 189 = .ok (.iastore, 1) := by decide +kernel
theorem dX12_tree_190 : decode cX12_tree 190 = .ok (.aload_n 0, 1) := by decide +kernel
theorem dX12_tree_191 : decode cX12_tree 191 = .ok (.getfield 46, 3) := by decide +kernel
theorem dX12_tree_194 : decode cX12_tree 194 = .ok (.aload_n 0, 1) := by decide +kernel
theorem dX12_tree_195 : decode cX12_tree 195 = .ok (.getfield 37, 3) := by decide +kernel
theorem dX12_tree_198 : decode cX12_tree 198 = .ok (.iload 4, 2) := by decide +kernel
theorem dX12_tree_200 : decode cX12_tree 200 = .ok (.iastore, 1) := by decide +kernel
theorem dX12_tree_201 : decode cX12_tree 201 = .ok (.aload_n 0, 1) := by decide +kernel
theorem dX12_tree_202 : decode cX12_tree 202 = .ok (.dup, 1) := by decide +kernel
theorem dX12_tree_203 : decode cX12_tree 203 = .ok (.getfield 37, 3) := by decide +kernel
theorem dX12_tree_206 : decode cX12_tree 206 = .ok (.iconst 1, 1) := by decide +kernel
theorem dX12_tree_207 : decode cX12_tree 207 = .ok (.iadd, 1) := by decide +kernel
theorem dX12_tree_208 : decode cX12_tree 208 = .ok (.putfield 37, 3) := by decide +kernel
theorem dX12_tree_211 : decode cX12_tree 211 = .ok (.iconst 0, 1) := by decide +kernel
theorem dX12_tree_212 : decode cX12_tree 212 = .ok (.istore 5, 2) := by decide +kernel
theorem dX12_tree_214 : decode cX12_tree 214 = .ok (.iload 5, 2) := by decide +kernel
theorem dX12_tree_216 : decode cX12_tree 216 = .ok (.aload_n 0, 1) := by decide +kernel
theorem dX12_tree_217 : decode cX12_tree 217 = .ok (.invokevirtual 90, 3) := by decide +kernel
theorem dX12_tree_220 : decode cX12_tree 220 = .ok (.if_icmp .ge 28, 3) := by decide +kernel
theorem dX12_tree_223 : decode cX12_tree 223 = .ok (.aload_n 0, 1) := by decide +kernel
theorem dX12_tree_224 : decode cX12_tree 224 = .ok (.getfield 58, 3) := by decide +kernel
theorem dX12_tree_227 : decode cX12_tree 227 = .ok (.iload 5, 2) := by decide +kernel
theorem dX12_tree_229 : decode cX12_tree 229 = .ok (.iaload, 1) := by decide +kernel
theorem dX12_tree_230 : decode cX12_tree 230 = .ok (.iload_n 3, 1) := by decide +kernel
theorem dX12_tree_231 : decode cX12_tree 231 = .ok (.if_icmp .ne 11, 3) := by decide +kernel
theorem dX12_tree_234 : decode cX12_tree 234 = .ok (.aload_n 0, 1) := by decide +kernel
theorem dX12_tree_235 : decode cX12_tree 235 = .ok (.getfield 58, 3) := by decide +kernel
theorem dX12_tree_238 : decode cX12_tree 238 = .ok (.iload 5, 2) := by decide +kernel
theorem dX12_tree_240 : decode cX12_tree 240 = .ok (.iload_n 2, 1) := by decide +kernel
theorem dX12_tree_241 : decode cX12_tree 241 = .ok (.iastore, 1) := by decide +kernel
theorem dX12_tree_242 : decode cX12_tree 242 = .ok (.iinc 5 1, 3) := by decide +kernel
end
section
theorem dX12_tree_245 : decode cX12_tree 245 = .ok (.goto (-31), 3) := by decide +kernel
theorem dX12_tree_248 : decode cX12_tree 248 = .ok (.goto (-200), 3) := by decide +kernel
theorem dX12_tree_251 : decode cX12_tree 251 = .ok (.aload_n 0, 1) := by decide +kernel
theorem dX12_tree_252 : decode cX12_tree 252 = .ok (.getfield 37, 3) := by decide +kernel
theorem dX12_tree_255 : decode cX12_tree 255 = .ok (.ireturn, 1) := by decide +kernel
theorem dX12_joined_0 : decode cX12_joined 0 = .ok (.aload_n 0, 1) := by decide +kernel
theorem dX12_joined_1 : decode cX12_joined 1 = .ok (.iconst 0, 1) := by decide +kernel
theorem dX12_joined_2 : decode cX12_joined 2 = .ok (.putfield 77, 3) := by decide +kernel
theorem dX12_joined_5 : decode cX12_joined 5 = .ok (.aload_n 0, 1) := by decide +kernel
theorem dX12_joined_6 : decode cX12_joined 6 = .ok (.getfield 37, 3) := by decide +kernel
theorem dX12_joined_9 : decode cX12_joined 9 = .ok (.iconst (-1), 1) := by decide +kernel
theorem dX12_joined_10 : decode cX12_joined 10 = .ok (.if_icmp .ne 9, 3) := by decide +kernel
theorem dX12_joined_13 : decode cX12_joined 13 = .ok (.aload_n 0, 1) := by decide +kernel
theorem dX12_joined_14 : decode cX12_joined 14 = .ok (.iconst 2, 1) := by decide +kernel
theorem dX12_joined_15 : decode cX12_joined 15 = .ok (.invokevirtual 98, 3) := by decide +kernel
theorem dX12_joined_18 : decode cX12_joined 18 = .ok (.ireturn, 1) := by decide +kernel
theorem dX12_joined_19 : decode cX12_joined 19 = .ok (.iload_n 1, 1) := by decide +kernel
theorem dX12_joined_20 : decode cX12_joined 20 = .ok (.ifCond .lt 20, 3) := by decide +kernel
theorem dX12_joined_23 : decode cX12_joined 23 = .ok (.iload_n 1, 1) := by decide +kernel
theorem dX12_joined_24 : decode cX12_joined 24 = .ok (.aload_n 0, 1) := by decide +kernel
theorem dX12_joined_25 : decode cX12_joined 25 = .ok (.getfield 37, 3) := by decide +kernel
theorem dX12_joined_28 : decode cX12_joined 28 = .ok (.if_icmp .ge 12, 3) := by decide +kernel
theorem dX12_joined_31 : decode cX12_joined 31 = .ok (.iload_n 2, 1) := by decide +kernel
theorem dX12_joined_32 : decode cX12_joined 32 = .ok (.ifCond .lt 8, 3) := by decide +kernel
theorem dX12_joined_35 : decode cX12_joined 35 = .ok (.iload_n 2, 1) := by decide +kernel
theorem dX12_joined_36 : decode cX12_joined 36 = .ok (.iconst 2, 1) := by decide +kernel
theorem dX12_joined_37 : decode cX12_joined 37 = .ok (.if_icmp .le 9, 3) := by decide +kernel
theorem dX12_joined_40 : decode cX12_joined 40 = .ok (.aload_n 0, 1) := by decide +kernel
theorem dX12_joined_41 : decode cX12_joined 41 = .ok (.iconst 1, 1) := by decide +kernel
theorem dX12_joined_42 : decode cX12_joined 42 = .ok (.invokevirtual 98, 3) := by decide +kernel
theorem dX12_joined_45 : decode cX12_joined 45 = .ok (.ireturn, 1) := by decide +kernel
theorem dX12_joined_46 : decode cX12_joined 46 = .ok (.iload_n 2, 1) := by decide +kernel
theorem dX12_joined_47 : decode cX12_joined 47 = .ok (.ifCond .ne 12, 3) := by decide +kernel
theorem dX12_joined_50 : decode cX12_joined 50 = .ok (.aload_n 0, 1) := by decide +kernel
theorem dX12_joined_51 : decode cX12_joined 51 = .ok (.getfield 40, 3) := by decide +kernel
theorem dX12_joined_54 : decode cX12_joined 54 = .ok (.iload_n 1, 1) := by decide +kernel
theorem dX12_joined_55 : decode cX12_joined 55 = .ok (.iaload, 1) := by decide +kernel
theorem dX12_joined_56 : decode cX12_joined 56 = .ok (.goto 23, 3) := by decide +kernel
theorem dX12_joined_59 : decode cX12_joined 59 = .ok (.iload_n 2, 1) := by decide +kernel
theorem dX12_joined_60 : decode cX12_joined 60 = .ok (.iconst 1, 1) := by decide +kernel
theorem dX12_joined_61 : decode cX12_joined 61 = .ok (.if_icmp .ne 12, 3) := by decide +kernel
theorem dX12_joined_64 : decode cX12_joined 64 = .ok (.aload_n 0, 1) := by decide +kernel
theorem dX12_joined_65 : decode cX12_joined 65 = .ok (.getfield 43, 3) := by decide +kernel
theorem dX12_joined_68 : decode cX12_joined 68 = .ok (.iload_n 1, 1) := by decide +kernel
theorem dX12_joined_69 : decode cX12_joined 69 = .ok (.iaload, 1) := by decide +kernel
theorem dX12_joined_70 : decode cX12_joined 70 = .ok (.goto 9, 3) := by decide +kernel
theorem dX12_joined_73 : decode cX12_joined 73 = .ok (.aload_n 0, 1) := by decide +kernel
theorem dX12_joined_74 : decode cX12_joined 74 = .ok (.getfield 46, 3) := by decide +kernel
theorem dX12_joined_77 : decode cX12_joined 77 = .ok (.iload_n 1, 1) := by decide +kernel
theorem dX12_joined_78 : decode cX12_joined 78 = .ok (.iaload, 1) := by decide +kernel
theorem dX12_joined_79 : decode cX12_joined 79 = .ok (.ireturn, 1) := by decide +kernel
theorem dX12_join_0 : decode cX12_join 0 = .ok (.iconst 0, 1) := by decide +kernel
theorem dX12_join_1 : decode cX12_join 1 = .ok (.istore_n 2, 1) := by decide +kernel
theorem dX12_join_2 : decode cX12_join 2 = .ok (.iload_n 2, 1) := by decide +kernel
theorem dX12_join_3 : decode cX12_join 3 = .ok (.aload_n 0, 1) := by decide +kernel
theorem dX12_join_4 : decode cX12_join 4 = .ok (.invokevirtual 90, 3) := by decide +kernel
theorem dX12_join_7 : decode cX12_join 7 = .ok (.if_icmp .ge 16, 3) := by decide +kernel
theorem dX12_join_10 : decode cX12_join 10 = .ok (.aload_n 0, 1) := by decide +kernel
theorem dX12_join_11 : decode cX12_join 11 = .ok (.getfield 58, 3) := by decide +kernel
theorem dX12_join_14 : decode cX12_join 14 = .ok (.iload_n 2, 1) := by decide +kernel
theorem dX12_join_15 : decode cX12_join 15 = .ok (.iload_n 2, 1) := by decide +kernel
theorem dX12_join_16 : decode cX12_join 16 = .ok (.iastore, 1) := by decide +kernel
theorem dX12_join_17 : decode cX12_join 17 = .ok (.iinc 2 1, 3) := by decide +kernel
theorem dX12_join_20 : decode cX12_join 20 = .ok (.goto (-18), 3) := by decide +kernel
theorem dX12_join_23 : decode cX12_join 23 = .ok (.iconst 0, 1) := by decide +kernel
theorem dX12_join_24 : decode cX12_join 24 = .ok (.istore_n 2, 1) := by decide +kernel
theorem dX12_join_25 : decode cX12_join 25 = .ok (.iload_n 2, 1) := by decide +kernel
theorem dX12_join_26 : decode cX12_join 26 = .ok (.iload_n 1, 1) := by decide +kernel
theorem dX12_join_27 : decode cX12_join 27 = .ok (.if_icmp .ge 52, 3) := by decide +kernel
theorem dX12_join_30 : decode cX12_join 30 = .ok (.iconst 0, 1) := by decide +kernel
theorem dX12_join_31 : decode cX12_join 31 = .ok (.istore_n 3, 1) := by decide +kernel
theorem dX12_join_32 : decode cX12_join 32 = .ok (.iload_n 3, 1) := by decide +kernel
theorem dX12_join_33 : decode cX12_join 33 = .ok (.aload_n 0, 1) := by decide +kernel
theorem dX12_join_34 : decode cX12_join 34 = .ok (.invokevirtual 90, 3) := by decide +kernel
theorem dX12_join_37 : decode cX12_join 37 = .ok (.if_icmp .ge 36, 3) := by decide +kernel
theorem dX12_join_40 : decode cX12_join 40 = .ok (.aload_n 0, 1) := by decide +kernel
theorem dX12_join_41 : decode cX12_join 41 = .ok (.getfield 58, 3) := by decide +kernel
theorem dX12_join_44 : decode cX12_join 44 = .ok (.iload_n 3, 1) := by decide +kernel
theorem dX12_join_45 : decode cX12_join 45 = .ok (.iaload, 1) := by decide +kernel
theorem dX12_join_46 : decode cX12_join 46 = .ok (.aload_n 0, 1) := by decide +kernel
theorem dX12_join_47 : decode cX12_join 47 = .ok (.getfield 43, 3) := by decide +kernel
theorem dX12_join_50 : decode cX12_join 50 = .ok (.iload_n 2, 1) := by decide +kernel
theorem dX12_join_51 : decode cX12_join 51 = .ok (.iaload, 1) := by decide +kernel
theorem dX12_join_52 : decode cX12_join 52 = .ok (.if_icmp .ne 15, 3) := by decide +kernel
theorem dX12_join_55 : decode cX12_join 55 = .ok (.aload_n 0, 1) := by decide +kernel
theorem dX12_join_56 : decode cX12_join 56 = .ok (.getfield 58, 3) := by decide +kernel
theorem dX12_join_59 : decode cX12_join 59 = .ok (.iload_n 3, 1) := by decide +kernel
theorem dX12_join_60 : decode cX12_join 60 = .ok (.aload_n 0, 1) := by decide +kernel
theorem dX12_join_61 : decode cX12_join 61 = .ok (.getfield 40, 3) := by decide +kernel
theorem dX12_join_64 : decode cX12_join 64 = .ok (.iload_n 2, 1) := by decide +kernel
theorem dX12_join_65 : decode cX12_join 65 = .ok (.iaload, 1) := by decide +kernel
theorem dX12_join_66 : decode cX12_join 66 = .ok (.iastore, 1) := by decide +kernel
theorem dX12_join_67 : decode cX12_join 67 = .ok (.iinc 3 1, 3) := by decide +kernel
theorem dX12_join_70 : decode cX12_join 70 = .ok (.goto (-38), 3) := by decide +kernel
theorem dX12_join_73 : decode cX12_join 73 = .ok (.iinc 2 1, 3) := by decide +kernel
theorem dX12_join_76 : decode cX12_join 76 = .ok (.goto (-51), 3) := by decide +kernel
theorem dX12_join_79 : decode cX12_join 79 = .ok (.return_, 1) := by decide +kernel
theorem dX12_height_0 : decode cX12_height 0 = .ok (.aload_n 0, 1) := by decide +kernel
theorem dX12_height_1 : decode cX12_height 1 = .ok (.iconst 0, 1) := by decide +kernel
theorem dX12_height_2 : decode cX12_height 2 = .ok (.putfield 77, 3) := by decide +kernel
theorem dX12_height_5 : decode cX12_height 5 = .ok (.aload_n 0, 1) := by decide +kernel
theorem dX12_height_6 : decode cX12_height 6 = .ok (.iload_n 1, 1) := by decide +kernel
theorem dX12_height_7 : decode cX12_height 7 = .ok (.invokevirtual 94, 3) := by decide +kernel
theorem dX12_height_10 : decode cX12_height 10 = .ok (.ifCond .eq 11, 3) := by decide +kernel
theorem dX12_height_13 : decode cX12_height 13 = .ok (.aload_n 0, 1) := by decide +kernel
theorem dX12_height_14 : decode cX12_height 14 = .ok (.iload_n 2, 1) := by decide +kernel
theorem dX12_height_15 : decode cX12_height 15 = .ok (.invokevirtual 94, 3) := by decide +kernel
theorem dX12_height_18 : decode cX12_height 18 = .ok (.ifCond .ne 9, 3) := by decide +kernel
theorem dX12_height_21 : decode cX12_height 21 = .ok (.aload_n 0, 1) := by decide +kernel
theorem dX12_height_22 : decode cX12_height 22 = .ok (.iconst 1, 1) := by decide +kernel
theorem dX12_height_23 : decode cX12_height 23 = .ok (.invokevirtual 98, 3) := by decide +kernel
theorem dX12_height_26 : decode cX12_height 26 = .ok (.ireturn, 1) := by decide +kernel
theorem dX12_height_27 : decode cX12_height 27 = .ok (.aload_n 0, 1) := by decide +kernel
theorem dX12_height_28 : decode cX12_height 28 = .ok (.getfield 37, 3) := by decide +kernel
theorem dX12_height_31 : decode cX12_height 31 = .ok (.iconst (-1), 1) := by decide +kernel
theorem dX12_height_32 : decode cX12_height 32 = .ok (.if_icmp .ne 9, 3) := by decide +kernel
theorem dX12_height_35 : decode cX12_height 35 = .ok (.aload_n 0, 1) := by decide +kernel
theorem dX12_height_36 : decode cX12_height 36 = .ok (.iconst 2, 1) := by decide +kernel
theorem dX12_height_37 : decode cX12_height 37 = .ok (.invokevirtual 98, 3) := by decide +kernel
theorem dX12_height_40 : decode cX12_height 40 = .ok (.ireturn, 1) := by decide +kernel
theorem dX12_height_41 : decode cX12_height 41 = .ok (.iload_n 1, 1) := by decide +kernel
theorem dX12_height_42 : decode cX12_height 42 = .ok (.iload_n 2, 1) := by decide +kernel
theorem dX12_height_43 : decode cX12_height 43 = .ok (.if_icmp .ne 5, 3) := by decide +kernel
theorem dX12_height_46 : decode cX12_height 46 = .ok (.iconst 0, 1) := by decide +kernel
theorem dX12_height_47 : decode cX12_height 47 = .ok (.ireturn, 1) := by decide +kernel
theorem dX12_height_48 : decode cX12_height 48 = .ok (.iconst 0, 1) := by decide +kernel
theorem dX12_height_49 : decode cX12_height 49 = .ok (.istore_n 3, 1) := by decide +kernel
theorem dX12_height_50 : decode cX12_height 50 = .ok (.iload_n 3, 1) := by decide +kernel
theorem dX12_height_51 : decode cX12_height 51 = .ok (.aload_n 0, 1) := by decide +kernel
theorem dX12_height_52 : decode cX12_height 52 = .ok (.getfield 37, 3) := by decide +kernel
theorem dX12_height_55 : decode cX12_height 55 = .ok (.if_icmp .ge 38, 3) := by decide +kernel
theorem dX12_height_58 : decode cX12_height 58 = .ok (.aload_n 0, 1) := by decide +kernel
theorem dX12_height_59 : decode cX12_height 59 = .ok (.iload_n 3, 1) := by decide +kernel
theorem dX12_height_60 : decode cX12_height 60 = .ok (.iconst 1, 1) := by decide +kernel
theorem dX12_height_61 : decode cX12_height 61 = .ok (.iadd, 1) := by decide +kernel
theorem dX12_height_62 : decode cX12_height 62 = .ok (.invokevirtual 208, 3) := by decide +kernel
theorem dX12_height_65 : decode cX12_height 65 = .ok (.aload_n 0, 1) := by decide +kernel
theorem dX12_height_66 : decode cX12_height 66 = .ok (.getfield 58, 3) := by decide +kernel
theorem dX12_height_69 : decode cX12_height 69 = .ok (.iload_n 1, 1) := by decide +kernel
theorem dX12_height_70 : decode cX12_height 70 = .ok (.iaload, 1) := by decide +kernel
theorem dX12_height_71 : decode cX12_height 71 = .ok (.aload_n 0, 1) := by decide +kernel
theorem dX12_height_72 : decode cX12_height 72 = .ok (.getfield 58, 3) := by decide +kernel
theorem dX12_height_75 : decode cX12_height 75 = .ok (.iload_n 2, 1) := by decide +kernel
theorem dX12_height_76 : decode cX12_height 76 = .ok (.iaload, 1) := by decide +kernel
theorem dX12_height_77 : decode cX12_height 77 = .ok (.if_icmp .ne 10, 3) := by decide +kernel
theorem dX12_height_80 : decode cX12_height 80 = .ok (.aload_n 0, 1) := by decide +kernel
theorem dX12_height_81 : decode cX12_height 81 = .ok (.getfield 46, 3) := by decide +kernel
theorem dX12_height_84 : decode cX12_height 84 = .ok (.iload_n 3, 1) := by decide +kernel
theorem dX12_height_85 : decode cX12_height 85 = .ok (.iaload, 1) := by decide +kernel
theorem dX12_height_86 : decode cX12_height 86 = .ok (.ireturn, 1) := by decide +kernel
theorem dX12_height_87 : decode cX12_height 87 = .ok (.iinc 3 1, 3) := by decide +kernel
theorem dX12_height_90 : decode cX12_height 90 = .ok (.goto (-40), 3) := by decide +kernel
theorem dX12_height_93 : decode cX12_height 93 = .ok (.iconst 0, 1) := by decide +kernel
theorem dX12_height_94 : decode cX12_height 94 = .ok (.ireturn, 1) := by decide +kernel
theorem dX12_cut_0 : decode cX12_cut 0 = .ok (.aload_n 0, 1) := by decide +kernel
theorem dX12_cut_1 : decode cX12_cut 1 = .ok (.iconst 0, 1) := by decide +kernel
theorem dX12_cut_2 : decode cX12_cut 2 = .ok (.putfield 77, 3) := by decide +kernel
theorem dX12_cut_5 : decode cX12_cut 5 = .ok (.aload_n 0, 1) := by decide +kernel
theorem dX12_cut_6 : decode cX12_cut 6 = .ok (.getfield 37, 3) := by decide +kernel
theorem dX12_cut_9 : decode cX12_cut 9 = .ok (.iconst (-1), 1) := by decide +kernel
theorem dX12_cut_10 : decode cX12_cut 10 = .ok (.if_icmp .ne 9, 3) := by decide +kernel
theorem dX12_cut_13 : decode cX12_cut 13 = .ok (.aload_n 0, 1) := by decide +kernel
theorem dX12_cut_14 : decode cX12_cut 14 = .ok (.iconst 2, 1) := by decide +kernel
theorem dX12_cut_15 : decode cX12_cut 15 = .ok (.invokevirtual 98, 3) := by decide +kernel
theorem dX12_cut_18 : decode cX12_cut 18 = .ok (.ireturn, 1) := by decide +kernel
theorem dX12_cut_19 : decode cX12_cut 19 = .ok (.aload_n 0, 1) := by decide +kernel
theorem dX12_cut_20 : decode cX12_cut 20 = .ok (.invokevirtual 102, 3) := by decide +kernel
theorem dX12_cut_23 : decode cX12_cut 23 = .ok (.iconst 0, 1) := by decide +kernel
theorem dX12_cut_24 : decode cX12_cut 24 = .ok (.istore_n 2, 1) := by decide +kernel
theorem dX12_cut_25 : decode cX12_cut 25 = .ok (.iload_n 2, 1) := by decide +kernel
theorem dX12_cut_26 : decode cX12_cut 26 = .ok (.aload_n 0, 1) := by decide +kernel
theorem dX12_cut_27 : decode cX12_cut 27 = .ok (.getfield 37, 3) := by decide +kernel
theorem dX12_cut_30 : decode cX12_cut 30 = .ok (.if_icmp .ge 19, 3) := by decide +kernel
theorem dX12_cut_33 : decode cX12_cut 33 = .ok (.aload_n 0, 1) := by decide +kernel
theorem dX12_cut_34 : decode cX12_cut 34 = .ok (.getfield 46, 3) := by decide +kernel
theorem dX12_cut_37 : decode cX12_cut 37 = .ok (.iload_n 2, 1) := by decide +kernel
theorem dX12_cut_38 : decode cX12_cut 38 = .ok (.iaload, 1) := by decide +kernel
theorem dX12_cut_39 : decode cX12_cut 39 = .ok (.iload_n 1, 1) := by decide +kernel
theorem dX12_cut_40 : decode cX12_cut 40 = .ok (.if_icmp .gt 9, 3) := by decide +kernel
theorem dX12_cut_43 : decode cX12_cut 43 = .ok (.iinc 2 1, 3) := by decide +kernel
theorem dX12_cut_46 : decode cX12_cut 46 = .ok (.goto (-21), 3) := by decide +kernel
theorem dX12_cut_49 : decode cX12_cut 49 = .ok (.aload_n 0, 1) := by decide +kernel
theorem dX12_cut_50 : decode cX12_cut 50 = .ok (.iload_n 2, 1) := by decide +kernel
theorem dX12_cut_51 : decode cX12_cut 51 = .ok (.invokevirtual 208, 3) := by decide +kernel
theorem dX12_cut_54 : decode cX12_cut 54 = .ok (.aload_n 0, 1) := by decide +kernel
theorem dX12_cut_55 : decode cX12_cut 55 = .ok (.aload_n 0, 1) := by decide +kernel
theorem dX12_cut_56 : decode cX12_cut 56 = .ok (.getfield 58, 3) := by decide +kernel
theorem dX12_cut_59 : decode cX12_cut 59 = .ok (.invokevirtual 147, 3) := by decide +kernel
theorem dX12_cut_62 : decode cX12_cut 62 = .ok (.istore_n 3, 1) := by decide +kernel
theorem dX12_cut_63 : decode cX12_cut 63 = .ok (.aload_n 0, 1) := by decide +kernel
theorem dX12_cut_64 : decode cX12_cut 64 = .ok (.aload_n 0, 1) := by decide +kernel
theorem dX12_cut_65 : decode cX12_cut 65 = .ok (.getfield 58, 3) := by decide +kernel
theorem dX12_cut_68 : decode cX12_cut 68 = .ok (.invokevirtual 150, 3) := by decide +kernel
theorem dX12_cut_71 : decode cX12_cut 71 = .ok (.iload_n 3, 1) := by decide +kernel
theorem dX12_cut_72 : decode cX12_cut 72 = .ok (.ireturn, 1) := by decide +kernel
theorem dX12_stirling_0 : decode cX12_stirling 0 = .ok (.iload_n 0, 1) := by decide +kernel
theorem dX12_stirling_1 : decode cX12_stirling 1 = .ok (.ifCond .eq 7, 3) := by decide +kernel
theorem dX12_stirling_4 : decode cX12_stirling 4 = .ok (.iload_n 1, 1) := by decide +kernel
theorem dX12_stirling_5 : decode cX12_stirling 5 = .ok (.ifCond .ne 14, 3) := by decide +kernel
theorem dX12_stirling_8 : decode cX12_stirling 8 = .ok (.iload_n 0, 1) := by decide +kernel
theorem dX12_stirling_9 : decode cX12_stirling 9 = .ok (.iload_n 1, 1) := by decide +kernel
theorem dX12_stirling_10 : decode cX12_stirling 10 = .ok (.if_icmp .ne 7, 3) := by decide +kernel
theorem dX12_stirling_13 : decode cX12_stirling 13 = .ok (.lconst 1, 1) := by decide +kernel
theorem dX12_stirling_14 : decode cX12_stirling 14 = .ok (.goto 4, 3) := by decide +kernel
theorem dX12_stirling_17 : decode cX12_stirling 17 = .ok (.lconst 0, 1) := by decide +kernel
theorem dX12_stirling_18 : decode cX12_stirling 18 = .ok (.lreturn, 1) := by decide +kernel
theorem dX12_stirling_19 : decode cX12_stirling 19 = .ok (.iload_n 1, 1) := by decide +kernel
theorem dX12_stirling_20 : decode cX12_stirling 20 = .ok (.i2l, 1) := by decide +kernel
theorem dX12_stirling_21 : decode cX12_stirling 21 = .ok (.iload_n 0, 1) := by decide +kernel
theorem dX12_stirling_22 : decode cX12_stirling 22 = .ok (.iconst 1, 1) := by decide +kernel
theorem dX12_stirling_23 : decode cX12_stirling 23 = .ok (.isub, 1) := by decide +kernel
theorem dX12_stirling_24 : decode cX12_stirling 24 = .ok (.iload_n 1, 1) := by decide +kernel
theorem dX12_stirling_25 : decode cX12_stirling 25 = .ok (.invokestatic 211, 3) := by decide +kernel
theorem dX12_stirling_28 : decode cX12_stirling 28 = .ok (.lmul, 1) := by decide +kernel
theorem dX12_stirling_29 : decode cX12_stirling 29 = .ok (.iload_n 0, 1) := by decide +kernel
theorem dX12_stirling_30 : decode cX12_stirling 30 = .ok (.iconst 1, 1) := by decide +kernel
theorem dX12_stirling_31 : decode cX12_stirling 31 = .ok (.isub, 1) := by decide +kernel
theorem dX12_stirling_32 : decode cX12_stirling 32 = .ok (.iload_n 1, 1) := by decide +kernel
theorem dX12_stirling_33 : decode cX12_stirling 33 = .ok (.iconst 1, 1) := by decide +kernel
theorem dX12_stirling_34 : decode cX12_stirling 34 = .ok (.isub, 1) := by decide +kernel
theorem dX12_stirling_35 : decode cX12_stirling 35 = .ok (.invokestatic 211, 3) := by decide +kernel
theorem dX12_stirling_38 : decode cX12_stirling 38 = .ok (.ladd, 1) := by decide +kernel
theorem dX12_stirling_39 : decode cX12_stirling 39 = .ok (.lreturn, 1) := by decide +kernel
theorem dX12_many_0 : decode cX12_many 0 = .ok (.aload_n 0, 1) := by decide +kernel
theorem dX12_many_1 : decode cX12_many 1 = .ok (.iconst 0, 1) := by decide +kernel
theorem dX12_many_2 : decode cX12_many 2 = .ok (.putfield 77, 3) := by decide +kernel
theorem dX12_many_5 : decode cX12_many 5 = .ok (.iload_n 1, 1) := by decide +kernel
theorem dX12_many_6 : decode cX12_many 6 = .ok (.ifCond .lt 19, 3) := by decide +kernel
theorem dX12_many_9 : decode cX12_many 9 = .ok (.iload_n 1, 1) := by decide +kernel
theorem dX12_many_10 : decode cX12_many 10 = .ok (.bipush 12, 2) := by decide +kernel
theorem dX12_many_12 : decode cX12_many 12 = .ok (.if_icmp .gt 13, 3) := by decide +kernel
theorem dX12_many_15 : decode cX12_many 15 = .ok (.iload_n 2, 1) := by decide +kernel
theorem dX12_many_16 : decode cX12_many 16 = .ok (.ifCond .lt 9, 3) := by decide +kernel
theorem dX12_many_19 : decode cX12_many 19 = .ok (.iload_n 2, 1) := by decide +kernel
theorem dX12_many_20 : decode cX12_many 20 = .ok (.bipush 12, 2) := by decide +kernel
theorem dX12_many_22 : decode cX12_many 22 = .ok (.if_icmp .le 10, 3) := by decide +kernel
theorem dX12_many_25 : decode cX12_many 25 = .ok (.aload_n 0, 1) := by decide +kernel
theorem dX12_many_26 : decode cX12_many 26 = .ok (.iconst 1, 1) := by decide +kernel
theorem dX12_many_27 : decode cX12_many 27 = .ok (.invokevirtual 98, 3) := by decide +kernel
theorem dX12_many_30 : decode cX12_many 30 = .ok (.i2l, 1) := by decide +kernel
theorem dX12_many_31 : decode cX12_many 31 = .ok (.lreturn, 1) := by decide +kernel
theorem dX12_many_32 : decode cX12_many 32 = .ok (.iload_n 2, 1) := by decide +kernel
theorem dX12_many_33 : decode cX12_many 33 = .ok (.ifCond .le 9, 3) := by decide +kernel
theorem dX12_many_36 : decode cX12_many 36 = .ok (.iload_n 1, 1) := by decide +kernel
theorem dX12_many_37 : decode cX12_many 37 = .ok (.iload_n 2, 1) := by decide +kernel
theorem dX12_many_38 : decode cX12_many 38 = .ok (.invokestatic 211, 3) := by decide +kernel
theorem dX12_many_41 : decode cX12_many 41 = .ok (.lreturn, 1) := by decide +kernel
theorem dX12_many_42 : decode cX12_many 42 = .ok (.lconst 0, 1) := by decide +kernel
theorem dX12_many_43 : decode cX12_many 43 = .ok (.lstore_n 3, 1) := by decide +kernel
theorem dX12_many_44 : decode cX12_many 44 = .ok (.iconst 0, 1) := by decide +kernel
theorem dX12_many_45 : decode cX12_many 45 = .ok (.istore 5, 2) := by decide +kernel
theorem dX12_many_47 : decode cX12_many 47 = .ok (.iload 5, 2) := by decide +kernel
theorem dX12_many_49 : decode cX12_many 49 = .ok (.iload_n 1, 1) := by decide +kernel
theorem dX12_many_50 : decode cX12_many 50 = .ok (.if_icmp .gt 18, 3) := by decide +kernel
theorem dX12_many_53 : decode cX12_many 53 = .ok (.lload_n 3, 1) := by decide +kernel
theorem dX12_many_54 : decode cX12_many 54 = .ok (.iload_n 1, 1) := by decide +kernel
theorem dX12_many_55 : decode cX12_many 55 = .ok (.iload 5, 2) := by decide +kernel
theorem dX12_many_57 : decode cX12_many 57 = .ok (.invokestatic 211, 3) := by decide +kernel
theorem dX12_many_60 : decode cX12_many 60 = .ok (.ladd, 1) := by decide +kernel
theorem dX12_many_61 : decode cX12_many 61 = .ok (.lstore_n 3, 1) := by decide +kernel
theorem dX12_many_62 : decode cX12_many 62 = .ok (.iinc 5 1, 3) := by decide +kernel
theorem dX12_many_65 : decode cX12_many 65 = .ok (.goto (-18), 3) := by decide +kernel
theorem dX12_many_68 : decode cX12_many 68 = .ok (.lload_n 3, 1) := by decide +kernel
theorem dX12_many_69 : decode cX12_many 69 = .ok (.lreturn, 1) := by decide +kernel
theorem dX12_waysOn_0 : decode cX12_waysOn 0 = .ok (.iload_n 0, 1) := by decide +kernel
theorem dX12_waysOn_1 : decode cX12_waysOn 1 = .ok (.ifCond .ne 5, 3) := by decide +kernel
theorem dX12_waysOn_4 : decode cX12_waysOn 4 = .ok (.lconst 1, 1) := by decide +kernel
theorem dX12_waysOn_5 : decode cX12_waysOn 5 = .ok (.lreturn, 1) := by decide +kernel
theorem dX12_waysOn_6 : decode cX12_waysOn 6 = .ok (.iload_n 1, 1) := by decide +kernel
theorem dX12_waysOn_7 : decode cX12_waysOn 7 = .ok (.i2l, 1) := by decide +kernel
theorem dX12_waysOn_8 : decode cX12_waysOn 8 = .ok (.iload_n 0, 1) := by decide +kernel
theorem dX12_waysOn_9 : decode cX12_waysOn 9 = .ok (.iconst 1, 1) := by decide +kernel
theorem dX12_waysOn_10 : decode cX12_waysOn 10 = .ok (.isub, 1) := by decide +kernel
theorem dX12_waysOn_11 : decode cX12_waysOn 11 = .ok (.iload_n 1, 1) := by decide +kernel
theorem dX12_waysOn_12 : decode cX12_waysOn 12 = .ok (.invokestatic 215, 3) := by decide +kernel
theorem dX12_waysOn_15 : decode cX12_waysOn 15 = .ok (.lmul, 1) := by decide +kernel
theorem dX12_waysOn_16 : decode cX12_waysOn 16 = .ok (.iload_n 0, 1) := by decide +kernel
theorem dX12_waysOn_17 : decode cX12_waysOn 17 = .ok (.iconst 1, 1) := by decide +kernel
theorem dX12_waysOn_18 : decode cX12_waysOn 18 = .ok (.isub, 1) := by decide +kernel
theorem dX12_waysOn_19 : decode cX12_waysOn 19 = .ok (.iload_n 1, 1) := by decide +kernel
theorem dX12_waysOn_20 : decode cX12_waysOn 20 = .ok (.iconst 1, 1) := by decide +kernel
theorem dX12_waysOn_21 : decode cX12_waysOn 21 = .ok (.iadd, 1) := by decide +kernel
theorem dX12_waysOn_22 : decode cX12_waysOn 22 = .ok (.invokestatic 215, 3) := by decide +kernel
theorem dX12_waysOn_25 : decode cX12_waysOn 25 = .ok (.ladd, 1) := by decide +kernel
theorem dX12_waysOn_26 : decode cX12_waysOn 26 = .ok (.lreturn, 1) := by decide +kernel
theorem dX12_rank_0 : decode cX12_rank 0 = .ok (.aload_n 0, 1) := by decide +kernel
theorem dX12_rank_1 : decode cX12_rank 1 = .ok (.iconst 0, 1) := by decide +kernel
theorem dX12_rank_2 : decode cX12_rank 2 = .ok (.putfield 77, 3) := by decide +kernel
theorem dX12_rank_5 : decode cX12_rank 5 = .ok (.lconst 0, 1) := by decide +kernel
theorem dX12_rank_6 : decode cX12_rank 6 = .ok (.lstore_n 1, 1) := by decide +kernel
theorem dX12_rank_7 : decode cX12_rank 7 = .ok (.iconst 1, 1) := by decide +kernel
theorem dX12_rank_8 : decode cX12_rank 8 = .ok (.istore_n 3, 1) := by decide +kernel
theorem dX12_rank_9 : decode cX12_rank 9 = .ok (.iconst 1, 1) := by decide +kernel
theorem dX12_rank_10 : decode cX12_rank 10 = .ok (.istore 4, 2) := by decide +kernel
theorem dX12_rank_12 : decode cX12_rank 12 = .ok (.iload 4, 2) := by decide +kernel
theorem dX12_rank_14 : decode cX12_rank 14 = .ok (.aload_n 0, 1) := by decide +kernel
theorem dX12_rank_15 : decode cX12_rank 15 = .ok (.invokevirtual 90, 3) := by decide +kernel
theorem dX12_rank_18 : decode cX12_rank 18 = .ok (.if_icmp .ge 48, 3) := by decide +kernel
theorem dX12_rank_21 : decode cX12_rank 21 = .ok (.lload_n 1, 1) := by decide +kernel
theorem dX12_rank_22 : decode cX12_rank 22 = .ok (.aload_n 0, 1) := by decide +kernel
theorem dX12_rank_23 : decode cX12_rank 23 = .ok (.getfield 26, 3) := by decide +kernel
theorem dX12_rank_26 : decode cX12_rank 26 = .ok (.iload 4, 2) := by decide +kernel
theorem dX12_rank_28 : decode cX12_rank 28 = .ok (.iaload, 1) := by decide +kernel
theorem dX12_rank_29 : decode cX12_rank 29 = .ok (.i2l, 1) := by decide +kernel
theorem dX12_rank_30 : decode cX12_rank 30 = .ok (.aload_n 0, 1) := by decide +kernel
theorem dX12_rank_31 : decode cX12_rank 31 = .ok (.invokevirtual 90, 3) := by decide +kernel
theorem dX12_rank_34 : decode cX12_rank 34 = .ok (.iconst 1, 1) := by decide +kernel
theorem dX12_rank_35 : decode cX12_rank 35 = .ok (.isub, 1) := by decide +kernel
theorem dX12_rank_36 : decode cX12_rank 36 = .ok (.iload 4, 2) := by decide +kernel
theorem dX12_rank_38 : decode cX12_rank 38 = .ok (.isub, 1) := by decide +kernel
theorem dX12_rank_39 : decode cX12_rank 39 = .ok (.iload_n 3, 1) := by decide +kernel
theorem dX12_rank_40 : decode cX12_rank 40 = .ok (.invokestatic 215, 3) := by decide +kernel
theorem dX12_rank_43 : decode cX12_rank 43 = .ok (.lmul, 1) := by decide +kernel
theorem dX12_rank_44 : decode cX12_rank 44 = .ok (.ladd, 1) := by decide +kernel
theorem dX12_rank_45 : decode cX12_rank 45 = .ok (.lstore_n 1, 1) := by decide +kernel
theorem dX12_rank_46 : decode cX12_rank 46 = .ok (.iload_n 3, 1) := by decide +kernel
theorem dX12_rank_47 : decode cX12_rank 47 = .ok (.aload_n 0, 1) := by decide +kernel
theorem dX12_rank_48 : decode cX12_rank 48 = .ok (.getfield 26, 3) := by decide +kernel
theorem dX12_rank_51 : decode cX12_rank 51 = .ok (.iload 4, 2) := by decide +kernel
theorem dX12_rank_53 : decode cX12_rank 53 = .ok (.iaload, 1) := by decide +kernel
theorem dX12_rank_54 : decode cX12_rank 54 = .ok (.iconst 1, 1) := by decide +kernel
theorem dX12_rank_55 : decode cX12_rank 55 = .ok (.iadd, 1) := by decide +kernel
theorem dX12_rank_56 : decode cX12_rank 56 = .ok (.invokestatic 125, 3) := by decide +kernel
theorem dX12_rank_59 : decode cX12_rank 59 = .ok (.istore_n 3, 1) := by decide +kernel
theorem dX12_rank_60 : decode cX12_rank 60 = .ok (.iinc 4 1, 3) := by decide +kernel
theorem dX12_rank_63 : decode cX12_rank 63 = .ok (.goto (-51), 3) := by decide +kernel
theorem dX12_rank_66 : decode cX12_rank 66 = .ok (.lload_n 1, 1) := by decide +kernel
theorem dX12_rank_67 : decode cX12_rank 67 = .ok (.lreturn, 1) := by decide +kernel
theorem dX12_of_0 : decode cX12_of 0 = .ok (.aload_n 0, 1) := by decide +kernel
theorem dX12_of_1 : decode cX12_of 1 = .ok (.iconst 0, 1) := by decide +kernel
theorem dX12_of_2 : decode cX12_of 2 = .ok (.putfield 77, 3) := by decide +kernel
theorem dX12_of_5 : decode cX12_of 5 = .ok (.lload_n 1, 1) := by decide +kernel
theorem dX12_of_6 : decode cX12_of 6 = .ok (.lconst 0, 1) := by decide +kernel
theorem dX12_of_7 : decode cX12_of 7 = .ok (.lcmp, 1) := by decide +kernel
theorem dX12_of_8 : decode cX12_of 8 = .ok (.ifCond .lt 18, 3) := by decide +kernel
theorem dX12_of_11 : decode cX12_of 11 = .ok (.lload_n 1, 1) := by decide +kernel
theorem dX12_of_12 : decode cX12_of 12 = .ok (.aload_n 0, 1) := by decide +kernel
theorem dX12_of_13 : decode cX12_of 13 = .ok (.invokevirtual 90, 3) := by decide +kernel
theorem dX12_of_16 : decode cX12_of 16 = .ok (.iconst 1, 1) := by decide +kernel
theorem dX12_of_17 : decode cX12_of 17 = .ok (.isub, 1) := by decide +kernel
theorem dX12_of_18 : decode cX12_of 18 = .ok (.iconst 1, 1) := by decide +kernel
theorem dX12_of_19 : decode cX12_of 19 = .ok (.invokestatic 215, 3) := by decide +kernel
theorem dX12_of_22 : decode cX12_of 22 = .ok (.lcmp, 1) := by decide +kernel
theorem dX12_of_23 : decode cX12_of 23 = .ok (.ifCond .lt 11, 3) := by decide +kernel
theorem dX12_of_26 : decode cX12_of 26 = .ok (.aload_n 0, 1) := by decide +kernel
theorem dX12_of_27 : decode cX12_of 27 = .ok (.iconst 1, 1) := by decide +kernel
theorem dX12_of_28 : decode cX12_of 28 = .ok (.invokevirtual 98, 3) := by decide +kernel
theorem dX12_of_31 : decode cX12_of 31 = .ok (.pop, 1) := by decide +kernel
theorem dX12_of_32 : decode cX12_of 32 = .ok (.iconst 0, 1) := by decide +kernel
theorem dX12_of_33 : decode cX12_of 33 = .ok (.ireturn, 1) := by decide +kernel
theorem dX12_of_34 : decode cX12_of 34 = .ok (.aload_n 0, 1) := by decide +kernel
theorem dX12_of_35 : decode cX12_of 35 = .ok (.invokevirtual 102, 3) := by decide +kernel
theorem dX12_of_38 : decode cX12_of 38 = .ok (.lload_n 1, 1) := by decide +kernel
theorem dX12_of_39 : decode cX12_of 39 = .ok (.lstore_n 3, 1) := by decide +kernel
theorem dX12_of_40 : decode cX12_of 40 = .ok (.iconst 1, 1) := by decide +kernel
theorem dX12_of_41 : decode cX12_of 41 = .ok (.istore 5, 2) := by decide +kernel
theorem dX12_of_43 : decode cX12_of 43 = .ok (.aload_n 0, 1) := by decide +kernel
theorem dX12_of_44 : decode cX12_of 44 = .ok (.getfield 26, 3) := by decide +kernel
theorem dX12_of_47 : decode cX12_of 47 = .ok (.iconst 0, 1) := by decide +kernel
theorem dX12_of_48 : decode cX12_of 48 = .ok (.iconst 0, 1) := by decide +kernel
theorem dX12_of_49 : decode cX12_of 49 = .ok (.iastore, 1) := by decide +kernel
theorem dX12_of_50 : decode cX12_of 50 = .ok (.iconst 1, 1) := by decide +kernel
theorem dX12_of_51 : decode cX12_of 51 = .ok (.istore 6, 2) := by decide +kernel
theorem dX12_of_53 : decode cX12_of 53 = .ok (.iload 6, 2) := by decide +kernel
theorem dX12_of_55 : decode cX12_of 55 = .ok (.aload_n 0, 1) := by decide +kernel
theorem dX12_of_56 : decode cX12_of 56 = .ok (.invokevirtual 90, 3) := by decide +kernel
theorem dX12_of_59 : decode cX12_of 59 = .ok (.if_icmp .ge 73, 3) := by decide +kernel
theorem dX12_of_62 : decode cX12_of 62 = .ok (.aload_n 0, 1) := by decide +kernel
theorem dX12_of_63 : decode cX12_of 63 = .ok (.invokevirtual 90, 3) := by decide +kernel
theorem dX12_of_66 : decode cX12_of 66 = .ok (.iconst 1, 1) := by decide +kernel
theorem dX12_of_67 : decode cX12_of 67 = .ok (.isub, 1) := by decide +kernel
theorem dX12_of_68 : decode cX12_of 68 = .ok (.iload 6, 2) := by decide +kernel
theorem dX12_of_70 : decode cX12_of 70 = .ok (.isub, 1) := by decide +kernel
theorem dX12_of_71 : decode cX12_of 71 = .ok (.iload 5, 2) := by decide +kernel
theorem dX12_of_73 : decode cX12_of 73 = .ok (.invokestatic 215, 3) := by decide +kernel
theorem dX12_of_76 : decode cX12_of 76 = .ok (.lstore 7, 2) := by decide +kernel
theorem dX12_of_78 : decode cX12_of 78 = .ok (.iconst 0, 1) := by decide +kernel
theorem dX12_of_79 : decode cX12_of 79 = .ok (.istore 9, 2) := by decide +kernel
theorem dX12_of_81 : decode cX12_of 81 = .ok (.iload 9, 2) := by decide +kernel
theorem dX12_of_83 : decode cX12_of 83 = .ok (.iload 5, 2) := by decide +kernel
theorem dX12_of_85 : decode cX12_of 85 = .ok (.if_icmp .ge 21, 3) := by decide +kernel
theorem dX12_of_88 : decode cX12_of 88 = .ok (.lload_n 3, 1) := by decide +kernel
theorem dX12_of_89 : decode cX12_of 89 = .ok (.lload 7, 2) := by decide +kernel
theorem dX12_of_91 : decode cX12_of 91 = .ok (.lcmp, 1) := by decide +kernel
theorem dX12_of_92 : decode cX12_of 92 = .ok (.ifCond .lt 14, 3) := by decide +kernel
theorem dX12_of_95 : decode cX12_of 95 = .ok (.lload_n 3, 1) := by decide +kernel
theorem dX12_of_96 : decode cX12_of 96 = .ok (.lload 7, 2) := by decide +kernel
theorem dX12_of_98 : decode cX12_of 98 = .ok (.lsub, 1) := by decide +kernel
theorem dX12_of_99 : decode cX12_of 99 = .ok (.lstore_n 3, 1) := by decide +kernel
theorem dX12_of_100 : decode cX12_of 100 = .ok (.iinc 9 1, 3) := by decide +kernel
theorem dX12_of_103 : decode cX12_of 103 = .ok (.goto (-22), 3) := by decide +kernel
theorem dX12_of_106 : decode cX12_of 106 = .ok (.aload_n 0, 1) := by decide +kernel
theorem dX12_of_107 : decode cX12_of 107 = .ok (.getfield 26, 3) := by decide +kernel
theorem dX12_of_110 : decode cX12_of 110 = .ok (.iload 6, 2) := by decide +kernel
theorem dX12_of_112 : decode cX12_of 112 = .ok (.iload 9, 2) := by decide +kernel
theorem dX12_of_114 : decode cX12_of 114 = .ok (.iastore, 1) := by decide +kernel
theorem dX12_of_115 : decode cX12_of 115 = .ok (.iload 5, 2) := by decide +kernel
theorem dX12_of_117 : decode cX12_of 117 = .ok (.iload 9, 2) := by decide +kernel
theorem dX12_of_119 : decode cX12_of 119 = .ok (.iconst 1, 1) := by decide +kernel
theorem dX12_of_120 : decode cX12_of 120 = .ok (.iadd, 1) := by decide +kernel
theorem dX12_of_121 : decode cX12_of 121 = .ok (.invokestatic 125, 3) := by decide +kernel
theorem dX12_of_124 : decode cX12_of 124 = .ok (.istore 5, 2) := by decide +kernel
theorem dX12_of_126 : decode cX12_of 126 = .ok (.iinc 6 1, 3) := by decide +kernel
theorem dX12_of_129 : decode cX12_of 129 = .ok (.goto (-76), 3) := by decide +kernel
theorem dX12_of_132 : decode cX12_of 132 = .ok (.iconst 1, 1) := by decide +kernel
theorem dX12_of_133 : decode cX12_of 133 = .ok (.ireturn, 1) := by decide +kernel
theorem dX12_keep_0 : decode cX12_keep 0 = .ok (.aload_n 0, 1) := by decide +kernel
theorem dX12_keep_1 : decode cX12_keep 1 = .ok (.iconst 0, 1) := by decide +kernel
theorem dX12_keep_2 : decode cX12_keep 2 = .ok (.putfield 77, 3) := by decide +kernel
theorem dX12_keep_5 : decode cX12_keep 5 = .ok (.iload_n 1, 1) := by decide +kernel
theorem dX12_keep_6 : decode cX12_keep 6 = .ok (.ifCond .lt 8, 3) := by decide +kernel
theorem dX12_keep_9 : decode cX12_keep 9 = .ok (.iload_n 1, 1) := by decide +kernel
theorem dX12_keep_10 : decode cX12_keep 10 = .ok (.iconst 4, 1) := by decide +kernel
theorem dX12_keep_11 : decode cX12_keep 11 = .ok (.if_icmp .lt 11, 3) := by decide +kernel
theorem dX12_keep_14 : decode cX12_keep 14 = .ok (.aload_n 0, 1) := by decide +kernel
theorem dX12_keep_15 : decode cX12_keep 15 = .ok (.iconst 1, 1) := by decide +kernel
theorem dX12_keep_16 : decode cX12_keep 16 = .ok (.invokevirtual 98, 3) := by decide +kernel
theorem dX12_keep_19 : decode cX12_keep 19 = .ok (.pop, 1) := by decide +kernel
theorem dX12_keep_20 : decode cX12_keep 20 = .ok (.iconst 0, 1) := by decide +kernel
theorem dX12_keep_21 : decode cX12_keep 21 = .ok (.ireturn, 1) := by decide +kernel
theorem dX12_keep_22 : decode cX12_keep 22 = .ok (.aload_n 0, 1) := by decide +kernel
theorem dX12_keep_23 : decode cX12_keep 23 = .ok (.getfield 49, 3) := by decide +kernel
theorem dX12_keep_26 : decode cX12_keep 26 = .ok (.iload_n 1, 1) := by decide +kernel
theorem dX12_keep_27 : decode cX12_keep 27 = .ok (.aload_n 0, 1) := by decide +kernel
theorem dX12_keep_28 : decode cX12_keep 28 = .ok (.invokevirtual 90, 3) := by decide +kernel
theorem dX12_keep_31 : decode cX12_keep 31 = .ok (.iastore, 1) := by decide +kernel
theorem dX12_keep_32 : decode cX12_keep 32 = .ok (.iconst 0, 1) := by decide +kernel
theorem dX12_keep_33 : decode cX12_keep 33 = .ok (.istore_n 2, 1) := by decide +kernel
theorem dX12_keep_34 : decode cX12_keep 34 = .ok (.iload_n 2, 1) := by decide +kernel
theorem dX12_keep_35 : decode cX12_keep 35 = .ok (.aload_n 0, 1) := by decide +kernel
theorem dX12_keep_36 : decode cX12_keep 36 = .ok (.invokevirtual 90, 3) := by decide +kernel
theorem dX12_keep_39 : decode cX12_keep 39 = .ok (.if_icmp .ge 26, 3) := by decide +kernel
theorem dX12_keep_42 : decode cX12_keep 42 = .ok (.aload_n 0, 1) := by decide +kernel
theorem dX12_keep_43 : decode cX12_keep 43 = .ok (.getfield 52, 3) := by decide +kernel
theorem dX12_keep_46 : decode cX12_keep 46 = .ok (.bipush 12, 2) := by decide +kernel
theorem dX12_keep_48 : decode cX12_keep 48 = .ok (.iload_n 1, 1) := by decide +kernel
theorem dX12_keep_49 : decode cX12_keep 49 = .ok (.imul, 1) := by decide +kernel
theorem dX12_keep_50 : decode cX12_keep 50 = .ok (.iload_n 2, 1) := by decide +kernel
theorem dX12_keep_51 : decode cX12_keep 51 = .ok (.iadd, 1) := by decide +kernel
theorem dX12_keep_52 : decode cX12_keep 52 = .ok (.aload_n 0, 1) := by decide +kernel
theorem dX12_keep_53 : decode cX12_keep 53 = .ok (.getfield 26, 3) := by decide +kernel
theorem dX12_keep_56 : decode cX12_keep 56 = .ok (.iload_n 2, 1) := by decide +kernel
theorem dX12_keep_57 : decode cX12_keep 57 = .ok (.iaload, 1) := by decide +kernel
theorem dX12_keep_58 : decode cX12_keep 58 = .ok (.iastore, 1) := by decide +kernel
theorem dX12_keep_59 : decode cX12_keep 59 = .ok (.iinc 2 1, 3) := by decide +kernel
theorem dX12_keep_62 : decode cX12_keep 62 = .ok (.goto (-28), 3) := by decide +kernel
theorem dX12_keep_65 : decode cX12_keep 65 = .ok (.iconst 1, 1) := by decide +kernel
theorem dX12_keep_66 : decode cX12_keep 66 = .ok (.ireturn, 1) := by decide +kernel
theorem dX12_keepWhy_0 : decode cX12_keepWhy 0 = .ok (.iload_n 1, 1) := by decide +kernel
theorem dX12_keepWhy_1 : decode cX12_keepWhy 1 = .ok (.ifCond .lt 8, 3) := by decide +kernel
theorem dX12_keepWhy_4 : decode cX12_keepWhy 4 = .ok (.iload_n 1, 1) := by decide +kernel
theorem dX12_keepWhy_5 : decode cX12_keepWhy 5 = .ok (.iconst 4, 1) := by decide +kernel
theorem dX12_keepWhy_6 : decode cX12_keepWhy 6 = .ok (.if_icmp .lt 7, 3) := by decide +kernel
theorem dX12_keepWhy_9 : decode cX12_keepWhy 9 = .ok (.iconst 1, 1) := by decide +kernel
theorem dX12_keepWhy_10 : decode cX12_keepWhy 10 = .ok (.goto 21, 3) := by decide +kernel
theorem dX12_keepWhy_13 : decode cX12_keepWhy 13 = .ok (.aload_n 0, 1) := by decide +kernel
theorem dX12_keepWhy_14 : decode cX12_keepWhy 14 = .ok (.getfield 49, 3) := by decide +kernel
theorem dX12_keepWhy_17 : decode cX12_keepWhy 17 = .ok (.iload_n 1, 1) := by decide +kernel
theorem dX12_keepWhy_18 : decode cX12_keepWhy 18 = .ok (.iaload, 1) := by decide +kernel
theorem dX12_keepWhy_19 : decode cX12_keepWhy 19 = .ok (.aload_n 0, 1) := by decide +kernel
theorem dX12_keepWhy_20 : decode cX12_keepWhy 20 = .ok (.invokevirtual 90, 3) := by decide +kernel
theorem dX12_keepWhy_23 : decode cX12_keepWhy 23 = .ok (.if_icmp .eq 7, 3) := by decide +kernel
theorem dX12_keepWhy_26 : decode cX12_keepWhy 26 = .ok (.iconst 2, 1) := by decide +kernel
theorem dX12_keepWhy_27 : decode cX12_keepWhy 27 = .ok (.goto 4, 3) := by decide +kernel
theorem dX12_keepWhy_30 : decode cX12_keepWhy 30 = .ok (.iconst 0, 1) := by decide +kernel
theorem dX12_keepWhy_31 : decode cX12_keepWhy 31 = .ok (.ireturn, 1) := by decide +kernel
theorem dX12_differ_0 : decode cX12_differ 0 = .ok (.aload_n 0, 1) := by decide +kernel
theorem dX12_differ_1 : decode cX12_differ 1 = .ok (.iconst 0, 1) := by decide +kernel
theorem dX12_differ_2 : decode cX12_differ 2 = .ok (.putfield 77, 3) := by decide +kernel
theorem dX12_differ_5 : decode cX12_differ 5 = .ok (.aload_n 0, 1) := by decide +kernel
theorem dX12_differ_6 : decode cX12_differ 6 = .ok (.iload_n 1, 1) := by decide +kernel
theorem dX12_differ_7 : decode cX12_differ 7 = .ok (.invokevirtual 218, 3) := by decide +kernel
theorem dX12_differ_10 : decode cX12_differ 10 = .ok (.ifCond .le 13, 3) := by decide +kernel
theorem dX12_differ_13 : decode cX12_differ 13 = .ok (.aload_n 0, 1) := by decide +kernel
theorem dX12_differ_14 : decode cX12_differ 14 = .ok (.aload_n 0, 1) := by decide +kernel
theorem dX12_differ_15 : decode cX12_differ 15 = .ok (.iload_n 1, 1) := by decide +kernel
theorem dX12_differ_16 : decode cX12_differ 16 = .ok (.invokevirtual 218, 3) := by decide +kernel
theorem dX12_differ_19 : decode cX12_differ 19 = .ok (.invokevirtual 98, 3) := by decide +kernel
theorem dX12_differ_22 : decode cX12_differ 22 = .ok (.ireturn, 1) := by decide +kernel
theorem dX12_differ_23 : decode cX12_differ 23 = .ok (.iconst 0, 1) := by decide +kernel
theorem dX12_differ_24 : decode cX12_differ 24 = .ok (.istore_n 2, 1) := by decide +kernel
theorem dX12_differ_25 : decode cX12_differ 25 = .ok (.iconst 0, 1) := by decide +kernel
theorem dX12_differ_26 : decode cX12_differ 26 = .ok (.istore_n 3, 1) := by decide +kernel
theorem dX12_differ_27 : decode cX12_differ 27 = .ok (.iload_n 3, 1) := by decide +kernel
theorem dX12_differ_28 : decode cX12_differ 28 = .ok (.aload_n 0, 1) := by decide +kernel
theorem dX12_differ_29 : decode cX12_differ 29 = .ok (.invokevirtual 90, 3) := by decide +kernel
theorem dX12_differ_32 : decode cX12_differ 32 = .ok (.if_icmp .ge 87, 3) := by decide +kernel
theorem dX12_differ_35 : decode cX12_differ 35 = .ok (.iload_n 3, 1) := by decide +kernel
theorem dX12_differ_36 : decode cX12_differ 36 = .ok (.iconst 1, 1) := by decide +kernel
theorem dX12_differ_37 : decode cX12_differ 37 = .ok (.iadd, 1) := by decide +kernel
theorem dX12_differ_38 : decode cX12_differ 38 = .ok (.istore 4, 2) := by decide +kernel
theorem dX12_differ_40 : decode cX12_differ 40 = .ok (.iload 4, 2) := by decide +kernel
theorem dX12_differ_42 : decode cX12_differ 42 = .ok (.aload_n 0, 1) := by decide +kernel
theorem dX12_differ_43 : decode cX12_differ 43 = .ok (.invokevirtual 90, 3) := by decide +kernel
theorem dX12_differ_46 : decode cX12_differ 46 = .ok (.if_icmp .ge 67, 3) := by decide +kernel
theorem dX12_differ_49 : decode cX12_differ 49 = .ok (.aload_n 0, 1) := by decide +kernel
theorem dX12_differ_50 : decode cX12_differ 50 = .ok (.getfield 26, 3) := by decide +kernel
theorem dX12_differ_53 : decode cX12_differ 53 = .ok (.iload_n 3, 1) := by decide +kernel
theorem dX12_differ_54 : decode cX12_differ 54 = .ok (.iaload, 1) := by decide +kernel
theorem dX12_differ_55 : decode cX12_differ 55 = .ok (.aload_n 0, 1) := by decide +kernel
theorem dX12_differ_56 : decode cX12_differ 56 = .ok (.getfield 26, 3) := by decide +kernel
theorem dX12_differ_59 : decode cX12_differ 59 = .ok (.iload 4, 2) := by decide +kernel
theorem dX12_differ_61 : decode cX12_differ 61 = .ok (.iaload, 1) := by decide +kernel
theorem dX12_differ_62 : decode cX12_differ 62 = .ok (.if_icmp .ne 7, 3) := by decide +kernel
theorem dX12_differ_65 : decode cX12_differ 65 = .ok (.iconst 1, 1) := by decide +kernel
theorem dX12_differ_66 : decode cX12_differ 66 = .ok (.goto 4, 3) := by decide +kernel
theorem dX12_differ_69 : decode cX12_differ 69 = .ok (.iconst 0, 1) := by decide +kernel
theorem dX12_differ_70 : decode cX12_differ 70 = .ok (.aload_n 0, 1) := by decide +kernel
theorem dX12_differ_71 : decode cX12_differ 71 = .ok (.getfield 52, 3) := by decide +kernel
theorem dX12_differ_74 : decode cX12_differ 74 = .ok (.bipush 12, 2) := by decide +kernel
theorem dX12_differ_76 : decode cX12_differ 76 = .ok (.iload_n 1, 1) := by decide +kernel
theorem dX12_differ_77 : decode cX12_differ 77 = .ok (.imul, 1) := by decide +kernel
theorem dX12_differ_78 : decode cX12_differ 78 = .ok (.iload_n 3, 1) := by decide +kernel
theorem dX12_differ_79 : decode cX12_differ 79 = .ok (.iadd, 1) := by decide +kernel
theorem dX12_differ_80 : decode cX12_differ 80 = .ok (.iaload, 1) := by decide +kernel
theorem dX12_differ_81 : decode cX12_differ 81 = .ok (.aload_n 0, 1) := by decide +kernel
theorem dX12_differ_82 : decode cX12_differ 82 = .ok (.getfield 52, 3) := by decide +kernel
theorem dX12_differ_85 : decode cX12_differ 85 = .ok (.bipush 12, 2) := by decide +kernel
theorem dX12_differ_87 : decode cX12_differ 87 = .ok (.iload_n 1, 1) := by decide +kernel
theorem dX12_differ_88 : decode cX12_differ 88 = .ok (.imul, 1) := by decide +kernel
theorem dX12_differ_89 : decode cX12_differ 89 = .ok (.iload 4, 2) := by decide +kernel
theorem dX12_differ_91 : decode cX12_differ 91 = .ok (.iadd, 1) := by decide +kernel
theorem dX12_differ_92 : decode cX12_differ 92 = .ok (.iaload, 1) := by decide +kernel
theorem dX12_differ_93 : decode cX12_differ 93 = .ok (.if_icmp .ne 7, 3) := by decide +kernel
theorem dX12_differ_96 : decode cX12_differ 96 = .ok (.iconst 1, 1) := by decide +kernel
theorem dX12_differ_97 : decode cX12_differ 97 = .ok (.goto 4, 3) := by decide +kernel
theorem dX12_differ_100 : decode cX12_differ 100 = .ok (.iconst 0, 1) := by decide +kernel
theorem dX12_differ_101 : decode cX12_differ 101 = .ok (.if_icmp .eq 6, 3) := by decide +kernel
theorem dX12_differ_104 : decode cX12_differ 104 = .ok (.iinc 2 1, 3) := by decide +kernel
theorem dX12_differ_107 : decode cX12_differ 107 = .ok (.iinc 4 1, 3) := by decide +kernel
theorem dX12_differ_110 : decode cX12_differ 110 = .ok (.goto (-70), 3) := by decide +kernel
theorem dX12_differ_113 : decode cX12_differ 113 = .ok (.iinc 3 1, 3) := by decide +kernel
theorem dX12_differ_116 : decode cX12_differ 116 = .ok (.goto (-89), 3) := by decide +kernel
theorem dX12_differ_119 : decode cX12_differ 119 = .ok (.iload_n 2, 1) := by decide +kernel
theorem dX12_differ_120 : decode cX12_differ 120 = .ok (.ireturn, 1) := by decide +kernel
theorem dX12_both_0 : decode cX12_both 0 = .ok (.aload_n 0, 1) := by decide +kernel
theorem dX12_both_1 : decode cX12_both 1 = .ok (.iconst 0, 1) := by decide +kernel
theorem dX12_both_2 : decode cX12_both 2 = .ok (.putfield 77, 3) := by decide +kernel
theorem dX12_both_5 : decode cX12_both 5 = .ok (.aload_n 0, 1) := by decide +kernel
theorem dX12_both_6 : decode cX12_both 6 = .ok (.iload_n 1, 1) := by decide +kernel
theorem dX12_both_7 : decode cX12_both 7 = .ok (.invokevirtual 218, 3) := by decide +kernel
theorem dX12_both_10 : decode cX12_both 10 = .ok (.ifCond .le 13, 3) := by decide +kernel
theorem dX12_both_13 : decode cX12_both 13 = .ok (.aload_n 0, 1) := by decide +kernel
theorem dX12_both_14 : decode cX12_both 14 = .ok (.aload_n 0, 1) := by decide +kernel
theorem dX12_both_15 : decode cX12_both 15 = .ok (.iload_n 1, 1) := by decide +kernel
theorem dX12_both_16 : decode cX12_both 16 = .ok (.invokevirtual 218, 3) := by decide +kernel
theorem dX12_both_19 : decode cX12_both 19 = .ok (.invokevirtual 98, 3) := by decide +kernel
theorem dX12_both_22 : decode cX12_both 22 = .ok (.ireturn, 1) := by decide +kernel
theorem dX12_both_23 : decode cX12_both 23 = .ok (.aload_n 0, 1) := by decide +kernel
theorem dX12_both_24 : decode cX12_both 24 = .ok (.invokevirtual 102, 3) := by decide +kernel
theorem dX12_both_27 : decode cX12_both 27 = .ok (.iconst 0, 1) := by decide +kernel
theorem dX12_both_28 : decode cX12_both 28 = .ok (.istore_n 2, 1) := by decide +kernel
theorem dX12_both_29 : decode cX12_both 29 = .ok (.iload_n 2, 1) := by decide +kernel
theorem dX12_both_30 : decode cX12_both 30 = .ok (.aload_n 0, 1) := by decide +kernel
theorem dX12_both_31 : decode cX12_both 31 = .ok (.invokevirtual 90, 3) := by decide +kernel
theorem dX12_both_34 : decode cX12_both 34 = .ok (.if_icmp .ge 36, 3) := by decide +kernel
theorem dX12_both_37 : decode cX12_both 37 = .ok (.aload_n 0, 1) := by decide +kernel
theorem dX12_both_38 : decode cX12_both 38 = .ok (.getfield 58, 3) := by decide +kernel
theorem dX12_both_41 : decode cX12_both 41 = .ok (.iload_n 2, 1) := by decide +kernel
theorem dX12_both_42 : decode cX12_both 42 = .ok (.bipush 12, 2) := by decide +kernel
theorem dX12_both_44 : decode cX12_both 44 = .ok (.aload_n 0, 1) := by decide +kernel
theorem dX12_both_45 : decode cX12_both 45 = .ok (.getfield 26, 3) := by decide +kernel
theorem dX12_both_48 : decode cX12_both 48 = .ok (.iload_n 2, 1) := by decide +kernel
theorem dX12_both_49 : decode cX12_both 49 = .ok (.iaload, 1) := by decide +kernel
theorem dX12_both_50 : decode cX12_both 50 = .ok (.imul, 1) := by decide +kernel
theorem dX12_both_51 : decode cX12_both 51 = .ok (.aload_n 0, 1) := by decide +kernel
theorem dX12_both_52 : decode cX12_both 52 = .ok (.getfield 52, 3) := by decide +kernel
theorem dX12_both_55 : decode cX12_both 55 = .ok (.bipush 12, 2) := by decide +kernel
theorem dX12_both_57 : decode cX12_both 57 = .ok (.iload_n 1, 1) := by decide +kernel
theorem dX12_both_58 : decode cX12_both 58 = .ok (.imul, 1) := by decide +kernel
theorem dX12_both_59 : decode cX12_both 59 = .ok (.iload_n 2, 1) := by decide +kernel
theorem dX12_both_60 : decode cX12_both 60 = .ok (.iadd, 1) := by decide +kernel
theorem dX12_both_61 : decode cX12_both 61 = .ok (.iaload, 1) := by decide +kernel
theorem dX12_both_62 : decode cX12_both 62 = .ok (.iadd, 1) := by decide +kernel
theorem dX12_both_63 : decode cX12_both 63 = .ok (.iastore, 1) := by decide +kernel
theorem dX12_both_64 : decode cX12_both 64 = .ok (.iinc 2 1, 3) := by decide +kernel
theorem dX12_both_67 : decode cX12_both 67 = .ok (.goto (-38), 3) := by decide +kernel
theorem dX12_both_70 : decode cX12_both 70 = .ok (.aload_n 0, 1) := by decide +kernel
theorem dX12_both_71 : decode cX12_both 71 = .ok (.aload_n 0, 1) := by decide +kernel
theorem dX12_both_72 : decode cX12_both 72 = .ok (.getfield 58, 3) := by decide +kernel
theorem dX12_both_75 : decode cX12_both 75 = .ok (.invokevirtual 147, 3) := by decide +kernel
theorem dX12_both_78 : decode cX12_both 78 = .ok (.istore_n 2, 1) := by decide +kernel
theorem dX12_both_79 : decode cX12_both 79 = .ok (.aload_n 0, 1) := by decide +kernel
theorem dX12_both_80 : decode cX12_both 80 = .ok (.aload_n 0, 1) := by decide +kernel
theorem dX12_both_81 : decode cX12_both 81 = .ok (.getfield 58, 3) := by decide +kernel
theorem dX12_both_84 : decode cX12_both 84 = .ok (.invokevirtual 150, 3) := by decide +kernel
theorem dX12_both_87 : decode cX12_both 87 = .ok (.iload_n 2, 1) := by decide +kernel
theorem dX12_both_88 : decode cX12_both 88 = .ok (.ireturn, 1) := by decide +kernel
theorem dX12_tell_0 : decode cX12_tell 0 = .ok (.aload_n 0, 1) := by decide +kernel
theorem dX12_tell_1 : decode cX12_tell 1 = .ok (.iconst 0, 1) := by decide +kernel
theorem dX12_tell_2 : decode cX12_tell 2 = .ok (.putfield 77, 3) := by decide +kernel
theorem dX12_tell_5 : decode cX12_tell 5 = .ok (.iload_n 1, 1) := by decide +kernel
theorem dX12_tell_6 : decode cX12_tell 6 = .ok (.ifCond .lt 18, 3) := by decide +kernel
theorem dX12_tell_9 : decode cX12_tell 9 = .ok (.iload_n 1, 1) := by decide +kernel
theorem dX12_tell_10 : decode cX12_tell 10 = .ok (.bipush 11, 2) := by decide +kernel
theorem dX12_tell_12 : decode cX12_tell 12 = .ok (.if_icmp .gt 12, 3) := by decide +kernel
theorem dX12_tell_15 : decode cX12_tell 15 = .ok (.aload_n 0, 1) := by decide +kernel
theorem dX12_tell_16 : decode cX12_tell 16 = .ok (.getfield 154, 3) := by decide +kernel
theorem dX12_tell_19 : decode cX12_tell 19 = .ok (.bipush 12, 2) := by decide +kernel
theorem dX12_tell_21 : decode cX12_tell 21 = .ok (.if_icmp .ne 9, 3) := by decide +kernel
theorem dX12_tell_24 : decode cX12_tell 24 = .ok (.aload_n 0, 1) := by decide +kernel
theorem dX12_tell_25 : decode cX12_tell 25 = .ok (.iconst 1, 1) := by decide +kernel
theorem dX12_tell_26 : decode cX12_tell 26 = .ok (.invokevirtual 98, 3) := by decide +kernel
theorem dX12_tell_29 : decode cX12_tell 29 = .ok (.ireturn, 1) := by decide +kernel
theorem dX12_tell_30 : decode cX12_tell 30 = .ok (.aload_n 0, 1) := by decide +kernel
theorem dX12_tell_31 : decode cX12_tell 31 = .ok (.getfield 55, 3) := by decide +kernel
theorem dX12_tell_34 : decode cX12_tell 34 = .ok (.aload_n 0, 1) := by decide +kernel
theorem dX12_tell_35 : decode cX12_tell 35 = .ok (.getfield 154, 3) := by decide +kernel
theorem dX12_tell_38 : decode cX12_tell 38 = .ok (.iload_n 1, 1) := by decide +kernel
theorem dX12_tell_39 : decode cX12_tell 39 = .ok (.iastore, 1) := by decide +kernel
theorem dX12_tell_40 : decode cX12_tell 40 = .ok (.aload_n 0, 1) := by decide +kernel
theorem dX12_tell_41 : decode cX12_tell 41 = .ok (.dup, 1) := by decide +kernel
theorem dX12_tell_42 : decode cX12_tell 42 = .ok (.getfield 154, 3) := by decide +kernel
theorem dX12_tell_45 : decode cX12_tell 45 = .ok (.iconst 1, 1) := by decide +kernel
theorem dX12_tell_46 : decode cX12_tell 46 = .ok (.iadd, 1) := by decide +kernel
theorem dX12_tell_47 : decode cX12_tell 47 = .ok (.putfield 154, 3) := by decide +kernel
theorem dX12_tell_50 : decode cX12_tell 50 = .ok (.aload_n 0, 1) := by decide +kernel
theorem dX12_tell_51 : decode cX12_tell 51 = .ok (.getfield 154, 3) := by decide +kernel
theorem dX12_tell_54 : decode cX12_tell 54 = .ok (.ireturn, 1) := by decide +kernel
theorem dX12_takeList_0 : decode cX12_takeList 0 = .ok (.aload_n 0, 1) := by decide +kernel
theorem dX12_takeList_1 : decode cX12_takeList 1 = .ok (.getfield 154, 3) := by decide +kernel
theorem dX12_takeList_4 : decode cX12_takeList 4 = .ok (.aload_n 0, 1) := by decide +kernel
theorem dX12_takeList_5 : decode cX12_takeList 5 = .ok (.invokevirtual 90, 3) := by decide +kernel
theorem dX12_takeList_8 : decode cX12_takeList 8 = .ok (.if_icmp .eq 5, 3) := by decide +kernel
theorem dX12_takeList_11 : decode cX12_takeList 11 = .ok (.iconst 0, 1) := by decide +kernel
theorem dX12_takeList_12 : decode cX12_takeList 12 = .ok (.ireturn, 1) := by decide +kernel
theorem dX12_takeList_13 : decode cX12_takeList 13 = .ok (.iconst 0, 1) := by decide +kernel
theorem dX12_takeList_14 : decode cX12_takeList 14 = .ok (.istore_n 1, 1) := by decide +kernel
theorem dX12_takeList_15 : decode cX12_takeList 15 = .ok (.iload_n 1, 1) := by decide +kernel
theorem dX12_takeList_16 : decode cX12_takeList 16 = .ok (.aload_n 0, 1) := by decide +kernel
theorem dX12_takeList_17 : decode cX12_takeList 17 = .ok (.invokevirtual 90, 3) := by decide +kernel
theorem dX12_takeList_20 : decode cX12_takeList 20 = .ok (.if_icmp .ge 21, 3) := by decide +kernel
theorem dX12_takeList_23 : decode cX12_takeList 23 = .ok (.aload_n 0, 1) := by decide +kernel
theorem dX12_takeList_24 : decode cX12_takeList 24 = .ok (.getfield 58, 3) := by decide +kernel
theorem dX12_takeList_27 : decode cX12_takeList 27 = .ok (.iload_n 1, 1) := by decide +kernel
theorem dX12_takeList_28 : decode cX12_takeList 28 = .ok (.aload_n 0, 1) := by decide +kernel
theorem dX12_takeList_29 : decode cX12_takeList 29 = .ok (.getfield 55, 3) := by decide +kernel
theorem dX12_takeList_32 : decode cX12_takeList 32 = .ok (.iload_n 1, 1) := by decide +kernel
theorem dX12_takeList_33 : decode cX12_takeList 33 = .ok (.iaload, 1) := by decide +kernel
theorem dX12_takeList_34 : decode cX12_takeList 34 = .ok (.iastore, 1) := by decide +kernel
theorem dX12_takeList_35 : decode cX12_takeList 35 = .ok (.iinc 1 1, 3) := by decide +kernel
theorem dX12_takeList_38 : decode cX12_takeList 38 = .ok (.goto (-23), 3) := by decide +kernel
theorem dX12_takeList_41 : decode cX12_takeList 41 = .ok (.aload_n 0, 1) := by decide +kernel
theorem dX12_takeList_42 : decode cX12_takeList 42 = .ok (.aload_n 0, 1) := by decide +kernel
theorem dX12_takeList_43 : decode cX12_takeList 43 = .ok (.getfield 58, 3) := by decide +kernel
theorem dX12_takeList_46 : decode cX12_takeList 46 = .ok (.invokevirtual 147, 3) := by decide +kernel
theorem dX12_takeList_49 : decode cX12_takeList 49 = .ok (.pop, 1) := by decide +kernel
theorem dX12_takeList_50 : decode cX12_takeList 50 = .ok (.iconst 1, 1) := by decide +kernel
theorem dX12_takeList_51 : decode cX12_takeList 51 = .ok (.ireturn, 1) := by decide +kernel
theorem dX12_check_0 : decode cX12_check 0 = .ok (.aload_n 0, 1) := by decide +kernel
theorem dX12_check_1 : decode cX12_check 1 = .ok (.iconst 0, 1) := by decide +kernel
theorem dX12_check_2 : decode cX12_check 2 = .ok (.putfield 77, 3) := by decide +kernel
theorem dX12_check_5 : decode cX12_check 5 = .ok (.iload_n 1, 1) := by decide +kernel
theorem dX12_check_6 : decode cX12_check 6 = .ok (.invokestatic 157, 3) := by decide +kernel
theorem dX12_check_9 : decode cX12_check 9 = .ok (.ifCond .ne 9, 3) := by decide +kernel
theorem dX12_check_12 : decode cX12_check 12 = .ok (.aload_n 0, 1) := by decide +kernel
theorem dX12_check_13 : decode cX12_check 13 = .ok (.iconst 1, 1) := by decide +kernel
theorem dX12_check_14 : decode cX12_check 14 = .ok (.invokevirtual 98, 3) := by decide +kernel
theorem dX12_check_17 : decode cX12_check 17 = .ok (.ireturn, 1) := by decide +kernel
theorem dX12_check_18 : decode cX12_check 18 = .ok (.aload_n 0, 1) := by decide +kernel
theorem dX12_check_19 : decode cX12_check 19 = .ok (.invokevirtual 221, 3) := by decide +kernel
theorem dX12_check_22 : decode cX12_check 22 = .ok (.istore 4, 2) := by decide +kernel
theorem dX12_check_24 : decode cX12_check 24 = .ok (.aload_n 0, 1) := by decide +kernel
theorem dX12_check_25 : decode cX12_check 25 = .ok (.iconst 0, 1) := by decide +kernel
theorem dX12_check_26 : decode cX12_check 26 = .ok (.putfield 154, 3) := by decide +kernel
theorem dX12_check_29 : decode cX12_check 29 = .ok (.iload 4, 2) := by decide +kernel
theorem dX12_check_31 : decode cX12_check 31 = .ok (.ifCond .ne 5, 3) := by decide +kernel
theorem dX12_check_34 : decode cX12_check 34 = .ok (.iconst 0, 1) := by decide +kernel
theorem dX12_check_35 : decode cX12_check 35 = .ok (.ireturn, 1) := by decide +kernel
theorem dX12_check_36 : decode cX12_check 36 = .ok (.aload_n 0, 1) := by decide +kernel
theorem dX12_check_37 : decode cX12_check 37 = .ok (.invokevirtual 160, 3) := by decide +kernel
theorem dX12_check_40 : decode cX12_check 40 = .ok (.aload_n 0, 1) := by decide +kernel
theorem dX12_check_41 : decode cX12_check 41 = .ok (.aload_n 0, 1) := by decide +kernel
theorem dX12_check_42 : decode cX12_check 42 = .ok (.getfield 58, 3) := by decide +kernel
theorem dX12_check_45 : decode cX12_check 45 = .ok (.iload_n 1, 1) := by decide +kernel
theorem dX12_check_46 : decode cX12_check 46 = .ok (.invokevirtual 163, 3) := by decide +kernel
theorem dX12_check_49 : decode cX12_check 49 = .ok (.lload_n 2, 1) := by decide +kernel
theorem dX12_check_50 : decode cX12_check 50 = .ok (.lcmp, 1) := by decide +kernel
theorem dX12_check_51 : decode cX12_check 51 = .ok (.ifCond .ne 7, 3) := by decide +kernel
theorem dX12_check_54 : decode cX12_check 54 = .ok (.iconst 2, 1) := by decide +kernel
theorem dX12_check_55 : decode cX12_check 55 = .ok (.goto 4, 3) := by decide +kernel
theorem dX12_check_58 : decode cX12_check 58 = .ok (.iconst 1, 1) := by decide +kernel
theorem dX12_check_59 : decode cX12_check 59 = .ok (.ireturn, 1) := by decide +kernel
theorem dX12_load_0 : decode cX12_load 0 = .ok (.aload_n 0, 1) := by decide +kernel
theorem dX12_load_1 : decode cX12_load 1 = .ok (.iconst 0, 1) := by decide +kernel
theorem dX12_load_2 : decode cX12_load 2 = .ok (.putfield 77, 3) := by decide +kernel
theorem dX12_load_5 : decode cX12_load 5 = .ok (.aload_n 0, 1) := by decide +kernel
theorem dX12_load_6 : decode cX12_load 6 = .ok (.invokevirtual 221, 3) := by decide +kernel
theorem dX12_load_9 : decode cX12_load 9 = .ok (.ifCond .ne 9, 3) := by decide +kernel
theorem dX12_load_12 : decode cX12_load 12 = .ok (.aload_n 0, 1) := by decide +kernel
theorem dX12_load_13 : decode cX12_load 13 = .ok (.iconst 1, 1) := by decide +kernel
theorem dX12_load_14 : decode cX12_load 14 = .ok (.invokevirtual 98, 3) := by decide +kernel
theorem dX12_load_17 : decode cX12_load 17 = .ok (.ireturn, 1) := by decide +kernel
theorem dX12_load_18 : decode cX12_load 18 = .ok (.aload_n 0, 1) := by decide +kernel
theorem dX12_load_19 : decode cX12_load 19 = .ok (.invokevirtual 102, 3) := by decide +kernel
theorem dX12_load_22 : decode cX12_load 22 = .ok (.aload_n 0, 1) := by decide +kernel
theorem dX12_load_23 : decode cX12_load 23 = .ok (.iconst 0, 1) := by decide +kernel
theorem dX12_load_24 : decode cX12_load 24 = .ok (.putfield 154, 3) := by decide +kernel
theorem dX12_load_27 : decode cX12_load 27 = .ok (.aload_n 0, 1) := by decide +kernel
theorem dX12_load_28 : decode cX12_load 28 = .ok (.aload_n 0, 1) := by decide +kernel
theorem dX12_load_29 : decode cX12_load 29 = .ok (.getfield 58, 3) := by decide +kernel
theorem dX12_load_32 : decode cX12_load 32 = .ok (.invokevirtual 150, 3) := by decide +kernel
theorem dX12_load_35 : decode cX12_load 35 = .ok (.aload_n 0, 1) := by decide +kernel
theorem dX12_load_36 : decode cX12_load 36 = .ok (.aload_n 0, 1) := by decide +kernel
theorem dX12_load_37 : decode cX12_load 37 = .ok (.getfield 58, 3) := by decide +kernel
theorem dX12_load_40 : decode cX12_load 40 = .ok (.invokevirtual 133, 3) := by decide +kernel
theorem dX12_load_43 : decode cX12_load 43 = .ok (.ireturn, 1) := by decide +kernel
theorem dX12_undo_0 : decode cX12_undo 0 = .ok (.aload_n 0, 1) := by decide +kernel
theorem dX12_undo_1 : decode cX12_undo 1 = .ok (.iconst 0, 1) := by decide +kernel
theorem dX12_undo_2 : decode cX12_undo 2 = .ok (.putfield 77, 3) := by decide +kernel
theorem dX12_undo_5 : decode cX12_undo 5 = .ok (.aload_n 0, 1) := by decide +kernel
theorem dX12_undo_6 : decode cX12_undo 6 = .ok (.getfield 80, 3) := by decide +kernel
theorem dX12_undo_9 : decode cX12_undo 9 = .ok (.ifCond .ne 9, 3) := by decide +kernel
theorem dX12_undo_12 : decode cX12_undo 12 = .ok (.aload_n 0, 1) := by decide +kernel
theorem dX12_undo_13 : decode cX12_undo 13 = .ok (.iconst 2, 1) := by decide +kernel
theorem dX12_undo_14 : decode cX12_undo 14 = .ok (.invokevirtual 98, 3) := by decide +kernel
theorem dX12_undo_17 : decode cX12_undo 17 = .ok (.ireturn, 1) := by decide +kernel
theorem dX12_undo_18 : decode cX12_undo 18 = .ok (.aload_n 0, 1) := by decide +kernel
theorem dX12_undo_19 : decode cX12_undo 19 = .ok (.dup, 1) := by decide +kernel
theorem dX12_undo_20 : decode cX12_undo 20 = .ok (.getfield 80, 3) := by decide +kernel
theorem dX12_undo_23 : decode cX12_undo 23 = .ok (.iconst 1, 1) := by decide +kernel
theorem dX12_undo_24 : decode cX12_undo 24 = .ok (.isub, 1) := by decide +kernel
theorem dX12_undo_25 : decode cX12_undo 25 = .ok (.putfield 80, 3) := by decide +kernel
theorem dX12_undo_28 : decode cX12_undo 28 = .ok (.aload_n 0, 1) := by decide +kernel
theorem dX12_undo_29 : decode cX12_undo 29 = .ok (.iconst 1, 1) := by decide +kernel
theorem dX12_undo_30 : decode cX12_undo 30 = .ok (.aload_n 0, 1) := by decide +kernel
theorem dX12_undo_31 : decode cX12_undo 31 = .ok (.getfield 83, 3) := by decide +kernel
theorem dX12_undo_34 : decode cX12_undo 34 = .ok (.aload_n 0, 1) := by decide +kernel
theorem dX12_undo_35 : decode cX12_undo 35 = .ok (.getfield 80, 3) := by decide +kernel
theorem dX12_undo_38 : decode cX12_undo 38 = .ok (.iadd, 1) := by decide +kernel
theorem dX12_undo_39 : decode cX12_undo 39 = .ok (.bipush 20, 2) := by decide +kernel
theorem dX12_undo_41 : decode cX12_undo 41 = .ok (.irem, 1) := by decide +kernel
theorem dX12_undo_42 : decode cX12_undo 42 = .ok (.iadd, 1) := by decide +kernel
theorem dX12_undo_43 : decode cX12_undo 43 = .ok (.iconst 0, 1) := by decide +kernel
theorem dX12_undo_44 : decode cX12_undo 44 = .ok (.invokevirtual 86, 3) := by decide +kernel
theorem dX12_undo_47 : decode cX12_undo 47 = .ok (.aload_n 0, 1) := by decide +kernel
theorem dX12_undo_48 : decode cX12_undo 48 = .ok (.iconst (-1), 1) := by decide +kernel
theorem dX12_undo_49 : decode cX12_undo 49 = .ok (.putfield 37, 3) := by decide +kernel
theorem dX12_undo_52 : decode cX12_undo 52 = .ok (.aload_n 0, 1) := by decide +kernel
theorem dX12_undo_53 : decode cX12_undo 53 = .ok (.getfield 80, 3) := by decide +kernel
theorem dX12_undo_56 : decode cX12_undo 56 = .ok (.ireturn, 1) := by decide +kernel
theorem dX12_fault_0 : decode cX12_fault 0 = .ok (.aload_n 0, 1) := by decide +kernel
theorem dX12_fault_1 : decode cX12_fault 1 = .ok (.getfield 77, 3) := by decide +kernel
theorem dX12_fault_4 : decode cX12_fault 4 = .ok (.ireturn, 1) := by decide +kernel
theorem dJ6_bitCount_0f7a4_0 : decode cJ6_bitCount_0f7a4 0 = .ok (.iload_n 0, 1) := by decide +kernel
theorem dJ6_bitCount_0f7a4_1 : decode cJ6_bitCount_0f7a4 1 = .ok (.iload_n 0, 1) := by decide +kernel
theorem dJ6_bitCount_0f7a4_2 : decode cJ6_bitCount_0f7a4 2 = .ok (.iconst 1, 1) := by decide +kernel
theorem dJ6_bitCount_0f7a4_3 : decode cJ6_bitCount_0f7a4 3 = .ok (.iushr, 1) := by decide +kernel
theorem dJ6_bitCount_0f7a4_4 : decode cJ6_bitCount_0f7a4 4 = .ok (.ldc_w 265, 3) := by decide +kernel
theorem dJ6_bitCount_0f7a4_7 : decode cJ6_bitCount_0f7a4 7 = .ok (.iand, 1) := by decide +kernel
theorem dJ6_bitCount_0f7a4_8 : decode cJ6_bitCount_0f7a4 8 = .ok (.isub, 1) := by decide +kernel
theorem dJ6_bitCount_0f7a4_9 : decode cJ6_bitCount_0f7a4 9 = .ok (.istore_n 0, 1) := by decide +kernel
theorem dJ6_bitCount_0f7a4_10 : decode cJ6_bitCount_0f7a4 10 = .ok (.iload_n 0, 1) := by decide +kernel
theorem dJ6_bitCount_0f7a4_11 : decode cJ6_bitCount_0f7a4 11 = .ok (.ldc_w 266, 3) := by decide +kernel
theorem dJ6_bitCount_0f7a4_14 : decode cJ6_bitCount_0f7a4 14 = .ok (.iand, 1) := by decide +kernel
theorem dJ6_bitCount_0f7a4_15 : decode cJ6_bitCount_0f7a4 15 = .ok (.iload_n 0, 1) := by decide +kernel
theorem dJ6_bitCount_0f7a4_16 : decode cJ6_bitCount_0f7a4 16 = .ok (.iconst 2, 1) := by decide +kernel
theorem dJ6_bitCount_0f7a4_17 : decode cJ6_bitCount_0f7a4 17 = .ok (.iushr, 1) := by decide +kernel
theorem dJ6_bitCount_0f7a4_18 : decode cJ6_bitCount_0f7a4 18 = .ok (.ldc_w 266, 3) := by decide +kernel
theorem dJ6_bitCount_0f7a4_21 : decode cJ6_bitCount_0f7a4 21 = .ok (.iand, 1) := by decide +kernel
theorem dJ6_bitCount_0f7a4_22 : decode cJ6_bitCount_0f7a4 22 = .ok (.iadd, 1) := by decide +kernel
theorem dJ6_bitCount_0f7a4_23 : decode cJ6_bitCount_0f7a4 23 = .ok (.istore_n 0, 1) := by decide +kernel
theorem dJ6_bitCount_0f7a4_24 : decode cJ6_bitCount_0f7a4 24 = .ok (.iload_n 0, 1) := by decide +kernel
theorem dJ6_bitCount_0f7a4_25 : decode cJ6_bitCount_0f7a4 25 = .ok (.iload_n 0, 1) := by decide +kernel
theorem dJ6_bitCount_0f7a4_26 : decode cJ6_bitCount_0f7a4 26 = .ok (.iconst 4, 1) := by decide +kernel
theorem dJ6_bitCount_0f7a4_27 : decode cJ6_bitCount_0f7a4 27 = .ok (.iushr, 1) := by decide +kernel
theorem dJ6_bitCount_0f7a4_28 : decode cJ6_bitCount_0f7a4 28 = .ok (.iadd, 1) := by decide +kernel
theorem dJ6_bitCount_0f7a4_29 : decode cJ6_bitCount_0f7a4 29 = .ok (.ldc_w 267, 3) := by decide +kernel
theorem dJ6_bitCount_0f7a4_32 : decode cJ6_bitCount_0f7a4 32 = .ok (.iand, 1) := by decide +kernel
theorem dJ6_bitCount_0f7a4_33 : decode cJ6_bitCount_0f7a4 33 = .ok (.istore_n 0, 1) := by decide +kernel
theorem dJ6_bitCount_0f7a4_34 : decode cJ6_bitCount_0f7a4 34 = .ok (.iload_n 0, 1) := by decide +kernel
theorem dJ6_bitCount_0f7a4_35 : decode cJ6_bitCount_0f7a4 35 = .ok (.iload_n 0, 1) := by decide +kernel
theorem dJ6_bitCount_0f7a4_36 : decode cJ6_bitCount_0f7a4 36 = .ok (.bipush 8, 2) := by decide +kernel
theorem dJ6_bitCount_0f7a4_38 : decode cJ6_bitCount_0f7a4 38 = .ok (.iushr, 1) := by decide +kernel
theorem dJ6_bitCount_0f7a4_39 : decode cJ6_bitCount_0f7a4 39 = .ok (.iadd, 1) := by decide +kernel
theorem dJ6_bitCount_0f7a4_40 : decode cJ6_bitCount_0f7a4 40 = .ok (.istore_n 0, 1) := by decide +kernel
theorem dJ6_bitCount_0f7a4_41 : decode cJ6_bitCount_0f7a4 41 = .ok (.iload_n 0, 1) := by decide +kernel
theorem dJ6_bitCount_0f7a4_42 : decode cJ6_bitCount_0f7a4 42 = .ok (.iload_n 0, 1) := by decide +kernel
theorem dJ6_bitCount_0f7a4_43 : decode cJ6_bitCount_0f7a4 43 = .ok (.bipush 16, 2) := by decide +kernel
theorem dJ6_bitCount_0f7a4_45 : decode cJ6_bitCount_0f7a4 45 = .ok (.iushr, 1) := by decide +kernel
theorem dJ6_bitCount_0f7a4_46 : decode cJ6_bitCount_0f7a4 46 = .ok (.iadd, 1) := by decide +kernel
theorem dJ6_bitCount_0f7a4_47 : decode cJ6_bitCount_0f7a4 47 = .ok (.istore_n 0, 1) := by decide +kernel
theorem dJ6_bitCount_0f7a4_48 : decode cJ6_bitCount_0f7a4 48 = .ok (.iload_n 0, 1) := by decide +kernel
theorem dJ6_bitCount_0f7a4_49 : decode cJ6_bitCount_0f7a4 49 = .ok (.bipush 63, 2) := by decide +kernel
theorem dJ6_bitCount_0f7a4_51 : decode cJ6_bitCount_0f7a4 51 = .ok (.iand, 1) := by decide +kernel
theorem dJ6_bitCount_0f7a4_52 : decode cJ6_bitCount_0f7a4 52 = .ok (.ireturn, 1) := by decide +kernel
theorem dJ9_abs_0f7a4_0 : decode cJ9_abs_0f7a4 0 = .ok (.iload_n 0, 1) := by decide +kernel
theorem dJ9_abs_0f7a4_1 : decode cJ9_abs_0f7a4 1 = .ok (.ifCond .ge 8, 3) := by decide +kernel
theorem dJ9_abs_0f7a4_4 : decode cJ9_abs_0f7a4 4 = .ok (.iload_n 0, 1) := by decide +kernel
theorem dJ9_abs_0f7a4_5 : decode cJ9_abs_0f7a4 5 = .ok (.ineg, 1) := by decide +kernel
theorem dJ9_abs_0f7a4_6 : decode cJ9_abs_0f7a4 6 = .ok (.goto 4, 3) := by decide +kernel
theorem dJ9_abs_0f7a4_9 : decode cJ9_abs_0f7a4 9 = .ok (.iload_n 0, 1) := by decide +kernel
theorem dJ9_abs_0f7a4_10 : decode cJ9_abs_0f7a4 10 = .ok (.ireturn, 1) := by decide +kernel
theorem dJ9_max_7cf53_0 : decode cJ9_max_7cf53 0 = .ok (.iload_n 0, 1) := by decide +kernel
theorem dJ9_max_7cf53_1 : decode cJ9_max_7cf53 1 = .ok (.iload_n 1, 1) := by decide +kernel
theorem dJ9_max_7cf53_2 : decode cJ9_max_7cf53 2 = .ok (.if_icmp .lt 7, 3) := by decide +kernel
theorem dJ9_max_7cf53_5 : decode cJ9_max_7cf53 5 = .ok (.iload_n 0, 1) := by decide +kernel
theorem dJ9_max_7cf53_6 : decode cJ9_max_7cf53 6 = .ok (.goto 4, 3) := by decide +kernel
theorem dJ9_max_7cf53_9 : decode cJ9_max_7cf53 9 = .ok (.iload_n 1, 1) := by decide +kernel
theorem dJ9_max_7cf53_10 : decode cJ9_max_7cf53 10 = .ok (.ireturn, 1) := by decide +kernel
theorem dJ9_max_f86c9_0 : decode cJ9_max_f86c9 0 = .ok (.lload_n 0, 1) := by decide +kernel
theorem dJ9_max_f86c9_1 : decode cJ9_max_f86c9 1 = .ok (.lload_n 2, 1) := by decide +kernel
theorem dJ9_max_f86c9_2 : decode cJ9_max_f86c9 2 = .ok (.lcmp, 1) := by decide +kernel
theorem dJ9_max_f86c9_3 : decode cJ9_max_f86c9 3 = .ok (.ifCond .lt 7, 3) := by decide +kernel
theorem dJ9_max_f86c9_6 : decode cJ9_max_f86c9 6 = .ok (.lload_n 0, 1) := by decide +kernel
theorem dJ9_max_f86c9_7 : decode cJ9_max_f86c9 7 = .ok (.goto 4, 3) := by decide +kernel
theorem dJ9_max_f86c9_10 : decode cJ9_max_f86c9 10 = .ok (.lload_n 2, 1) := by decide +kernel
theorem dJ9_max_f86c9_11 : decode cJ9_max_f86c9 11 = .ok (.lreturn, 1) := by decide +kernel
theorem dJ9_min_7cf53_0 : decode cJ9_min_7cf53 0 = .ok (.iload_n 0, 1) := by decide +kernel
theorem dJ9_min_7cf53_1 : decode cJ9_min_7cf53 1 = .ok (.iload_n 1, 1) := by decide +kernel
theorem dJ9_min_7cf53_2 : decode cJ9_min_7cf53 2 = .ok (.if_icmp .gt 7, 3) := by decide +kernel
theorem dJ9_min_7cf53_5 : decode cJ9_min_7cf53 5 = .ok (.iload_n 0, 1) := by decide +kernel
theorem dJ9_min_7cf53_6 : decode cJ9_min_7cf53 6 = .ok (.goto 4, 3) := by decide +kernel
theorem dJ9_min_7cf53_9 : decode cJ9_min_7cf53 9 = .ok (.iload_n 1, 1) := by decide +kernel
theorem dJ9_min_7cf53_10 : decode cJ9_min_7cf53 10 = .ok (.ireturn, 1) := by decide +kernel
theorem dJ7_fill_d0a16_0 : decode cJ7_fill_d0a16 0 = .ok (.iconst 0, 1) := by decide +kernel
theorem dJ7_fill_d0a16_1 : decode cJ7_fill_d0a16 1 = .ok (.istore_n 3, 1) := by decide +kernel
theorem dJ7_fill_d0a16_2 : decode cJ7_fill_d0a16 2 = .ok (.aload_n 0, 1) := by decide +kernel
theorem dJ7_fill_d0a16_3 : decode cJ7_fill_d0a16 3 = .ok (.arraylength, 1) := by decide +kernel
theorem dJ7_fill_d0a16_4 : decode cJ7_fill_d0a16 4 = .ok (.istore 4, 2) := by decide +kernel
theorem dJ7_fill_d0a16_6 : decode cJ7_fill_d0a16 6 = .ok (.iload_n 3, 1) := by decide +kernel
theorem dJ7_fill_d0a16_7 : decode cJ7_fill_d0a16 7 = .ok (.iload 4, 2) := by decide +kernel
theorem dJ7_fill_d0a16_9 : decode cJ7_fill_d0a16 9 = .ok (.if_icmp .ge 13, 3) := by decide +kernel
theorem dJ7_fill_d0a16_12 : decode cJ7_fill_d0a16 12 = .ok (.aload_n 0, 1) := by decide +kernel
theorem dJ7_fill_d0a16_13 : decode cJ7_fill_d0a16 13 = .ok (.iload_n 3, 1) := by decide +kernel
theorem dJ7_fill_d0a16_14 : decode cJ7_fill_d0a16 14 = .ok (.lload_n 1, 1) := by decide +kernel
theorem dJ7_fill_d0a16_15 : decode cJ7_fill_d0a16 15 = .ok (.lastore, 1) := by decide +kernel
theorem dJ7_fill_d0a16_16 : decode cJ7_fill_d0a16 16 = .ok (.iinc 3 1, 3) := by decide +kernel
theorem dJ7_fill_d0a16_19 : decode cJ7_fill_d0a16 19 = .ok (.goto (-13), 3) := by decide +kernel
theorem dJ7_fill_d0a16_22 : decode cJ7_fill_d0a16 22 = .ok (.return_, 1) := by decide +kernel
theorem dJ7_fill_53178_0 : decode cJ7_fill_53178 0 = .ok (.iconst 0, 1) := by decide +kernel
theorem dJ7_fill_53178_1 : decode cJ7_fill_53178 1 = .ok (.istore_n 2, 1) := by decide +kernel
theorem dJ7_fill_53178_2 : decode cJ7_fill_53178 2 = .ok (.aload_n 0, 1) := by decide +kernel
theorem dJ7_fill_53178_3 : decode cJ7_fill_53178 3 = .ok (.arraylength, 1) := by decide +kernel
theorem dJ7_fill_53178_4 : decode cJ7_fill_53178 4 = .ok (.istore_n 3, 1) := by decide +kernel
theorem dJ7_fill_53178_5 : decode cJ7_fill_53178 5 = .ok (.iload_n 2, 1) := by decide +kernel
theorem dJ7_fill_53178_6 : decode cJ7_fill_53178 6 = .ok (.iload_n 3, 1) := by decide +kernel
theorem dJ7_fill_53178_7 : decode cJ7_fill_53178 7 = .ok (.if_icmp .ge 13, 3) := by decide +kernel
theorem dJ7_fill_53178_10 : decode cJ7_fill_53178 10 = .ok (.aload_n 0, 1) := by decide +kernel
theorem dJ7_fill_53178_11 : decode cJ7_fill_53178 11 = .ok (.iload_n 2, 1) := by decide +kernel
theorem dJ7_fill_53178_12 : decode cJ7_fill_53178 12 = .ok (.iload_n 1, 1) := by decide +kernel
theorem dJ7_fill_53178_13 : decode cJ7_fill_53178 13 = .ok (.iastore, 1) := by decide +kernel
theorem dJ7_fill_53178_14 : decode cJ7_fill_53178 14 = .ok (.iinc 2 1, 3) := by decide +kernel
theorem dJ7_fill_53178_17 : decode cJ7_fill_53178 17 = .ok (.goto (-12), 3) := by decide +kernel
theorem dJ7_fill_53178_20 : decode cJ7_fill_53178 20 = .ok (.return_, 1) := by decide +kernel
theorem dL_law_0 : decode cL_law 0 = .ok (.new 7, 3) := by decide +kernel
theorem dL_law_3 : decode cL_law 3 = .ok (.dup, 1) := by decide +kernel
theorem dL_law_4 : decode cL_law 4 = .ok (.invokespecial 9, 3) := by decide +kernel
theorem dL_law_7 : decode cL_law 7 = .ok (.astore_n 1, 1) := by decide +kernel
theorem dL_law_8 : decode cL_law 8 = .ok (.new 10, 3) := by decide +kernel
theorem dL_law_11 : decode cL_law 11 = .ok (.dup, 1) := by decide +kernel
theorem dL_law_12 : decode cL_law 12 = .ok (.invokespecial 12, 3) := by decide +kernel
theorem dL_law_15 : decode cL_law 15 = .ok (.astore_n 2, 1) := by decide +kernel
theorem dL_law_16 : decode cL_law 16 = .ok (.iconst 0, 1) := by decide +kernel
theorem dL_law_17 : decode cL_law 17 = .ok (.istore_n 3, 1) := by decide +kernel
theorem dL_law_18 : decode cL_law 18 = .ok (.iload_n 3, 1) := by decide +kernel
theorem dL_law_19 : decode cL_law 19 = .ok (.aload_n 0, 1) := by decide +kernel
theorem dL_law_20 : decode cL_law 20 = .ok (.arraylength, 1) := by decide +kernel
theorem dL_law_21 : decode cL_law 21 = .ok (.iconst 5, 1) := by decide +kernel
theorem dL_law_22 : decode cL_law 22 = .ok (.isub, 1) := by decide +kernel
theorem dL_law_23 : decode cL_law 23 = .ok (.if_icmp .gt 1206, 3) := by decide +kernel
theorem dL_law_26 : decode cL_law 26 = .ok (.aload_n 0, 1) := by decide +kernel
theorem dL_law_27 : decode cL_law 27 = .ok (.iload_n 3, 1) := by decide +kernel
theorem dL_law_28 : decode cL_law 28 = .ok (.iaload, 1) := by decide +kernel
theorem dL_law_29 : decode cL_law 29 = .ok (.bipush 63, 2) := by decide +kernel
theorem dL_law_31 : decode cL_law 31 = .ok (.iand, 1) := by decide +kernel
theorem dL_law_32 : decode cL_law 32 = .ok (.tableswitch 1191 0 35 #[160, 183, 226, 259, 322, 345, 368, 437, 470, 493, 516, 559, 583, 606, 640, 674, 697, 710, 733, 757, 771, 784, 807, 840, 873, 896, 930, 944, 997, 1020, 1043, 1066, 1089, 1152, 1165, 1178], 160) := by decide +kernel
theorem dL_law_192 : decode cL_law 192 = .ok (.aload_n 1, 1) := by decide +kernel
theorem dL_law_193 : decode cL_law 193 = .ok (.aload_n 0, 1) := by decide +kernel
theorem dL_law_194 : decode cL_law 194 = .ok (.iload_n 3, 1) := by decide +kernel
theorem dL_law_195 : decode cL_law 195 = .ok (.iconst 1, 1) := by decide +kernel
theorem dL_law_196 : decode cL_law 196 = .ok (.iadd, 1) := by decide +kernel
theorem dL_law_197 : decode cL_law 197 = .ok (.iaload, 1) := by decide +kernel
theorem dL_law_198 : decode cL_law 198 = .ok (.invokevirtual 13, 3) := by decide +kernel
theorem dL_law_201 : decode cL_law 201 = .ok (.aload_n 2, 1) := by decide +kernel
theorem dL_law_202 : decode cL_law 202 = .ok (.aload_n 0, 1) := by decide +kernel
theorem dL_law_203 : decode cL_law 203 = .ok (.iload_n 3, 1) := by decide +kernel
theorem dL_law_204 : decode cL_law 204 = .ok (.iconst 1, 1) := by decide +kernel
theorem dL_law_205 : decode cL_law 205 = .ok (.iadd, 1) := by decide +kernel
theorem dL_law_206 : decode cL_law 206 = .ok (.iaload, 1) := by decide +kernel
theorem dL_law_207 : decode cL_law 207 = .ok (.invokevirtual 17, 3) := by decide +kernel
theorem dL_law_210 : decode cL_law 210 = .ok (.if_icmp .eq 1013, 3) := by decide +kernel
theorem dL_law_213 : decode cL_law 213 = .ok (.iconst 0, 1) := by decide +kernel
theorem dL_law_214 : decode cL_law 214 = .ok (.ireturn, 1) := by decide +kernel
theorem dL_law_215 : decode cL_law 215 = .ok (.aload_n 1, 1) := by decide +kernel
theorem dL_law_216 : decode cL_law 216 = .ok (.aload_n 0, 1) := by decide +kernel
theorem dL_law_217 : decode cL_law 217 = .ok (.iload_n 3, 1) := by decide +kernel
theorem dL_law_218 : decode cL_law 218 = .ok (.iconst 1, 1) := by decide +kernel
theorem dL_law_219 : decode cL_law 219 = .ok (.iadd, 1) := by decide +kernel
theorem dL_law_220 : decode cL_law 220 = .ok (.iaload, 1) := by decide +kernel
theorem dL_law_221 : decode cL_law 221 = .ok (.aload_n 0, 1) := by decide +kernel
theorem dL_law_222 : decode cL_law 222 = .ok (.iload_n 3, 1) := by decide +kernel
theorem dL_law_223 : decode cL_law 223 = .ok (.iconst 2, 1) := by decide +kernel
theorem dL_law_224 : decode cL_law 224 = .ok (.iadd, 1) := by decide +kernel
theorem dL_law_225 : decode cL_law 225 = .ok (.iaload, 1) := by decide +kernel
theorem dL_law_226 : decode cL_law 226 = .ok (.aload_n 0, 1) := by decide +kernel
theorem dL_law_227 : decode cL_law 227 = .ok (.iload_n 3, 1) := by decide +kernel
theorem dL_law_228 : decode cL_law 228 = .ok (.iconst 3, 1) := by decide +kernel
theorem dL_law_229 : decode cL_law 229 = .ok (.iadd, 1) := by decide +kernel
theorem dL_law_230 : decode cL_law 230 = .ok (.iaload, 1) := by decide +kernel
theorem dL_law_231 : decode cL_law 231 = .ok (.invokevirtual 18, 3) := by decide +kernel
theorem dL_law_234 : decode cL_law 234 = .ok (.aload_n 2, 1) := by decide +kernel
theorem dL_law_235 : decode cL_law 235 = .ok (.aload_n 0, 1) := by decide +kernel
theorem dL_law_236 : decode cL_law 236 = .ok (.iload_n 3, 1) := by decide +kernel
theorem dL_law_237 : decode cL_law 237 = .ok (.iconst 1, 1) := by decide +kernel
theorem dL_law_238 : decode cL_law 238 = .ok (.iadd, 1) := by decide +kernel
theorem dL_law_239 : decode cL_law 239 = .ok (.iaload, 1) := by decide +kernel
theorem dL_law_240 : decode cL_law 240 = .ok (.aload_n 0, 1) := by decide +kernel
theorem dL_law_241 : decode cL_law 241 = .ok (.iload_n 3, 1) := by decide +kernel
theorem dL_law_242 : decode cL_law 242 = .ok (.iconst 2, 1) := by decide +kernel
theorem dL_law_243 : decode cL_law 243 = .ok (.iadd, 1) := by decide +kernel
theorem dL_law_244 : decode cL_law 244 = .ok (.iaload, 1) := by decide +kernel
theorem dL_law_245 : decode cL_law 245 = .ok (.aload_n 0, 1) := by decide +kernel
theorem dL_law_246 : decode cL_law 246 = .ok (.iload_n 3, 1) := by decide +kernel
theorem dL_law_247 : decode cL_law 247 = .ok (.iconst 3, 1) := by decide +kernel
theorem dL_law_248 : decode cL_law 248 = .ok (.iadd, 1) := by decide +kernel
theorem dL_law_249 : decode cL_law 249 = .ok (.iaload, 1) := by decide +kernel
theorem dL_law_250 : decode cL_law 250 = .ok (.invokevirtual 22, 3) := by decide +kernel
theorem dL_law_253 : decode cL_law 253 = .ok (.if_icmp .eq 970, 3) := by decide +kernel
theorem dL_law_256 : decode cL_law 256 = .ok (.iconst 0, 1) := by decide +kernel
theorem dL_law_257 : decode cL_law 257 = .ok (.ireturn, 1) := by decide +kernel
theorem dL_law_258 : decode cL_law 258 = .ok (.aload_n 1, 1) := by decide +kernel
theorem dL_law_259 : decode cL_law 259 = .ok (.aload_n 0, 1) := by decide +kernel
theorem dL_law_260 : decode cL_law 260 = .ok (.iload_n 3, 1) := by decide +kernel
theorem dL_law_261 : decode cL_law 261 = .ok (.iconst 1, 1) := by decide +kernel
theorem dL_law_262 : decode cL_law 262 = .ok (.iadd, 1) := by decide +kernel
theorem dL_law_263 : decode cL_law 263 = .ok (.iaload, 1) := by decide +kernel
theorem dL_law_264 : decode cL_law 264 = .ok (.aload_n 0, 1) := by decide +kernel
theorem dL_law_265 : decode cL_law 265 = .ok (.iload_n 3, 1) := by decide +kernel
theorem dL_law_266 : decode cL_law 266 = .ok (.iconst 2, 1) := by decide +kernel
theorem dL_law_267 : decode cL_law 267 = .ok (.iadd, 1) := by decide +kernel
theorem dL_law_268 : decode cL_law 268 = .ok (.iaload, 1) := by decide +kernel
theorem dL_law_269 : decode cL_law 269 = .ok (.invokevirtual 23, 3) := by decide +kernel
theorem dL_law_272 : decode cL_law 272 = .ok (.aload_n 2, 1) := by decide +kernel
theorem dL_law_273 : decode cL_law 273 = .ok (.aload_n 0, 1) := by decide +kernel
theorem dL_law_274 : decode cL_law 274 = .ok (.iload_n 3, 1) := by decide +kernel
theorem dL_law_275 : decode cL_law 275 = .ok (.iconst 1, 1) := by decide +kernel
theorem dL_law_276 : decode cL_law 276 = .ok (.iadd, 1) := by decide +kernel
theorem dL_law_277 : decode cL_law 277 = .ok (.iaload, 1) := by decide +kernel
theorem dL_law_278 : decode cL_law 278 = .ok (.aload_n 0, 1) := by decide +kernel
theorem dL_law_279 : decode cL_law 279 = .ok (.iload_n 3, 1) := by decide +kernel
theorem dL_law_280 : decode cL_law 280 = .ok (.iconst 2, 1) := by decide +kernel
theorem dL_law_281 : decode cL_law 281 = .ok (.iadd, 1) := by decide +kernel
theorem dL_law_282 : decode cL_law 282 = .ok (.iaload, 1) := by decide +kernel
theorem dL_law_283 : decode cL_law 283 = .ok (.invokevirtual 27, 3) := by decide +kernel
theorem dL_law_286 : decode cL_law 286 = .ok (.if_icmp .eq 937, 3) := by decide +kernel
theorem dL_law_289 : decode cL_law 289 = .ok (.iconst 0, 1) := by decide +kernel
theorem dL_law_290 : decode cL_law 290 = .ok (.ireturn, 1) := by decide +kernel
theorem dL_law_291 : decode cL_law 291 = .ok (.aload_n 1, 1) := by decide +kernel
theorem dL_law_292 : decode cL_law 292 = .ok (.aload_n 0, 1) := by decide +kernel
theorem dL_law_293 : decode cL_law 293 = .ok (.iload_n 3, 1) := by decide +kernel
theorem dL_law_294 : decode cL_law 294 = .ok (.iconst 1, 1) := by decide +kernel
theorem dL_law_295 : decode cL_law 295 = .ok (.iadd, 1) := by decide +kernel
theorem dL_law_296 : decode cL_law 296 = .ok (.iaload, 1) := by decide +kernel
theorem dL_law_297 : decode cL_law 297 = .ok (.aload_n 0, 1) := by decide +kernel
theorem dL_law_298 : decode cL_law 298 = .ok (.iload_n 3, 1) := by decide +kernel
theorem dL_law_299 : decode cL_law 299 = .ok (.iconst 2, 1) := by decide +kernel
theorem dL_law_300 : decode cL_law 300 = .ok (.iadd, 1) := by decide +kernel
theorem dL_law_301 : decode cL_law 301 = .ok (.iaload, 1) := by decide +kernel
theorem dL_law_302 : decode cL_law 302 = .ok (.i2l, 1) := by decide +kernel
theorem dL_law_303 : decode cL_law 303 = .ok (.bipush 32, 2) := by decide +kernel
theorem dL_law_305 : decode cL_law 305 = .ok (.lshl, 1) := by decide +kernel
theorem dL_law_306 : decode cL_law 306 = .ok (.aload_n 0, 1) := by decide +kernel
theorem dL_law_307 : decode cL_law 307 = .ok (.iload_n 3, 1) := by decide +kernel
theorem dL_law_308 : decode cL_law 308 = .ok (.iconst 3, 1) := by decide +kernel
theorem dL_law_309 : decode cL_law 309 = .ok (.iadd, 1) := by decide +kernel
theorem dL_law_310 : decode cL_law 310 = .ok (.iaload, 1) := by decide +kernel
theorem dL_law_311 : decode cL_law 311 = .ok (.i2l, 1) := by decide +kernel
theorem dL_law_312 : decode cL_law 312 = .ok (.ldc2_w 28, 3) := by decide +kernel
theorem dL_law_315 : decode cL_law 315 = .ok (.land, 1) := by decide +kernel
theorem dL_law_316 : decode cL_law 316 = .ok (.lor, 1) := by decide +kernel
theorem dL_law_317 : decode cL_law 317 = .ok (.invokevirtual 30, 3) := by decide +kernel
theorem dL_law_320 : decode cL_law 320 = .ok (.aload_n 2, 1) := by decide +kernel
theorem dL_law_321 : decode cL_law 321 = .ok (.aload_n 0, 1) := by decide +kernel
theorem dL_law_322 : decode cL_law 322 = .ok (.iload_n 3, 1) := by decide +kernel
theorem dL_law_323 : decode cL_law 323 = .ok (.iconst 1, 1) := by decide +kernel
theorem dL_law_324 : decode cL_law 324 = .ok (.iadd, 1) := by decide +kernel
theorem dL_law_325 : decode cL_law 325 = .ok (.iaload, 1) := by decide +kernel
theorem dL_law_326 : decode cL_law 326 = .ok (.aload_n 0, 1) := by decide +kernel
theorem dL_law_327 : decode cL_law 327 = .ok (.iload_n 3, 1) := by decide +kernel
theorem dL_law_328 : decode cL_law 328 = .ok (.iconst 2, 1) := by decide +kernel
theorem dL_law_329 : decode cL_law 329 = .ok (.iadd, 1) := by decide +kernel
theorem dL_law_330 : decode cL_law 330 = .ok (.iaload, 1) := by decide +kernel
theorem dL_law_331 : decode cL_law 331 = .ok (.i2l, 1) := by decide +kernel
theorem dL_law_332 : decode cL_law 332 = .ok (.bipush 32, 2) := by decide +kernel
theorem dL_law_334 : decode cL_law 334 = .ok (.lshl, 1) := by decide +kernel
theorem dL_law_335 : decode cL_law 335 = .ok (.aload_n 0, 1) := by decide +kernel
theorem dL_law_336 : decode cL_law 336 = .ok (.iload_n 3, 1) := by decide +kernel
theorem dL_law_337 : decode cL_law 337 = .ok (.iconst 3, 1) := by decide +kernel
theorem dL_law_338 : decode cL_law 338 = .ok (.iadd, 1) := by decide +kernel
theorem dL_law_339 : decode cL_law 339 = .ok (.iaload, 1) := by decide +kernel
theorem dL_law_340 : decode cL_law 340 = .ok (.i2l, 1) := by decide +kernel
theorem dL_law_341 : decode cL_law 341 = .ok (.ldc2_w 28, 3) := by decide +kernel
theorem dL_law_344 : decode cL_law 344 = .ok (.land, 1) := by decide +kernel
theorem dL_law_345 : decode cL_law 345 = .ok (.lor, 1) := by decide +kernel
theorem dL_law_346 : decode cL_law 346 = .ok (.invokevirtual 34, 3) := by decide +kernel
theorem dL_law_349 : decode cL_law 349 = .ok (.if_icmp .eq 874, 3) := by decide +kernel
theorem dL_law_352 : decode cL_law 352 = .ok (.iconst 0, 1) := by decide +kernel
theorem dL_law_353 : decode cL_law 353 = .ok (.ireturn, 1) := by decide +kernel
theorem dL_law_354 : decode cL_law 354 = .ok (.aload_n 1, 1) := by decide +kernel
theorem dL_law_355 : decode cL_law 355 = .ok (.aload_n 0, 1) := by decide +kernel
theorem dL_law_356 : decode cL_law 356 = .ok (.iload_n 3, 1) := by decide +kernel
theorem dL_law_357 : decode cL_law 357 = .ok (.iconst 1, 1) := by decide +kernel
theorem dL_law_358 : decode cL_law 358 = .ok (.iadd, 1) := by decide +kernel
theorem dL_law_359 : decode cL_law 359 = .ok (.iaload, 1) := by decide +kernel
theorem dL_law_360 : decode cL_law 360 = .ok (.invokevirtual 35, 3) := by decide +kernel
theorem dL_law_363 : decode cL_law 363 = .ok (.aload_n 2, 1) := by decide +kernel
theorem dL_law_364 : decode cL_law 364 = .ok (.aload_n 0, 1) := by decide +kernel
theorem dL_law_365 : decode cL_law 365 = .ok (.iload_n 3, 1) := by decide +kernel
theorem dL_law_366 : decode cL_law 366 = .ok (.iconst 1, 1) := by decide +kernel
theorem dL_law_367 : decode cL_law 367 = .ok (.iadd, 1) := by decide +kernel
theorem dL_law_368 : decode cL_law 368 = .ok (.iaload, 1) := by decide +kernel
theorem dL_law_369 : decode cL_law 369 = .ok (.invokevirtual 38, 3) := by decide +kernel
theorem dL_law_372 : decode cL_law 372 = .ok (.if_icmp .eq 851, 3) := by decide +kernel
theorem dL_law_375 : decode cL_law 375 = .ok (.iconst 0, 1) := by decide +kernel
theorem dL_law_376 : decode cL_law 376 = .ok (.ireturn, 1) := by decide +kernel
theorem dL_law_377 : decode cL_law 377 = .ok (.aload_n 1, 1) := by decide +kernel
theorem dL_law_378 : decode cL_law 378 = .ok (.aload_n 0, 1) := by decide +kernel
theorem dL_law_379 : decode cL_law 379 = .ok (.iload_n 3, 1) := by decide +kernel
theorem dL_law_380 : decode cL_law 380 = .ok (.iconst 1, 1) := by decide +kernel
theorem dL_law_381 : decode cL_law 381 = .ok (.iadd, 1) := by decide +kernel
theorem dL_law_382 : decode cL_law 382 = .ok (.iaload, 1) := by decide +kernel
theorem dL_law_383 : decode cL_law 383 = .ok (.invokevirtual 39, 3) := by decide +kernel
theorem dL_law_386 : decode cL_law 386 = .ok (.aload_n 2, 1) := by decide +kernel
theorem dL_law_387 : decode cL_law 387 = .ok (.aload_n 0, 1) := by decide +kernel
theorem dL_law_388 : decode cL_law 388 = .ok (.iload_n 3, 1) := by decide +kernel
theorem dL_law_389 : decode cL_law 389 = .ok (.iconst 1, 1) := by decide +kernel
theorem dL_law_390 : decode cL_law 390 = .ok (.iadd, 1) := by decide +kernel
theorem dL_law_391 : decode cL_law 391 = .ok (.iaload, 1) := by decide +kernel
theorem dL_law_392 : decode cL_law 392 = .ok (.invokevirtual 43, 3) := by decide +kernel
theorem dL_law_395 : decode cL_law 395 = .ok (.if_icmp .eq 828, 3) := by decide +kernel
theorem dL_law_398 : decode cL_law 398 = .ok (.iconst 0, 1) := by decide +kernel
theorem dL_law_399 : decode cL_law 399 = .ok (.ireturn, 1) := by decide +kernel
theorem dL_law_400 : decode cL_law 400 = .ok (.aload_n 1, 1) := by decide +kernel
theorem dL_law_401 : decode cL_law 401 = .ok (.aload_n 0, 1) := by decide +kernel
theorem dL_law_402 : decode cL_law 402 = .ok (.iload_n 3, 1) := by decide +kernel
theorem dL_law_403 : decode cL_law 403 = .ok (.iconst 1, 1) := by decide +kernel
theorem dL_law_404 : decode cL_law 404 = .ok (.iadd, 1) := by decide +kernel
theorem dL_law_405 : decode cL_law 405 = .ok (.iaload, 1) := by decide +kernel
theorem dL_law_406 : decode cL_law 406 = .ok (.aload_n 0, 1) := by decide +kernel
theorem dL_law_407 : decode cL_law 407 = .ok (.iload_n 3, 1) := by decide +kernel
theorem dL_law_408 : decode cL_law 408 = .ok (.iconst 2, 1) := by decide +kernel
theorem dL_law_409 : decode cL_law 409 = .ok (.iadd, 1) := by decide +kernel
theorem dL_law_410 : decode cL_law 410 = .ok (.iaload, 1) := by decide +kernel
theorem dL_law_411 : decode cL_law 411 = .ok (.aload_n 0, 1) := by decide +kernel
theorem dL_law_412 : decode cL_law 412 = .ok (.iload_n 3, 1) := by decide +kernel
theorem dL_law_413 : decode cL_law 413 = .ok (.iconst 3, 1) := by decide +kernel
theorem dL_law_414 : decode cL_law 414 = .ok (.iadd, 1) := by decide +kernel
theorem dL_law_415 : decode cL_law 415 = .ok (.iaload, 1) := by decide +kernel
theorem dL_law_416 : decode cL_law 416 = .ok (.aload_n 0, 1) := by decide +kernel
theorem dL_law_417 : decode cL_law 417 = .ok (.iload_n 3, 1) := by decide +kernel
theorem dL_law_418 : decode cL_law 418 = .ok (.iconst 4, 1) := by decide +kernel
theorem dL_law_419 : decode cL_law 419 = .ok (.iadd, 1) := by decide +kernel
theorem dL_law_420 : decode cL_law 420 = .ok (.iaload, 1) := by decide +kernel
theorem dL_law_421 : decode cL_law 421 = .ok (.ifCond .eq 7, 3) := by decide +kernel
theorem dL_law_424 : decode cL_law 424 = .ok (.iconst 1, 1) := by decide +kernel
theorem dL_law_425 : decode cL_law 425 = .ok (.goto 4, 3) := by decide +kernel
theorem dL_law_428 : decode cL_law 428 = .ok (.iconst 0, 1) := by decide +kernel
theorem dL_law_429 : decode cL_law 429 = .ok (.invokevirtual 44, 3) := by decide +kernel
theorem dL_law_432 : decode cL_law 432 = .ok (.aload_n 2, 1) := by decide +kernel
theorem dL_law_433 : decode cL_law 433 = .ok (.aload_n 0, 1) := by decide +kernel
theorem dL_law_434 : decode cL_law 434 = .ok (.iload_n 3, 1) := by decide +kernel
theorem dL_law_435 : decode cL_law 435 = .ok (.iconst 1, 1) := by decide +kernel
theorem dL_law_436 : decode cL_law 436 = .ok (.iadd, 1) := by decide +kernel
theorem dL_law_437 : decode cL_law 437 = .ok (.iaload, 1) := by decide +kernel
theorem dL_law_438 : decode cL_law 438 = .ok (.aload_n 0, 1) := by decide +kernel
theorem dL_law_439 : decode cL_law 439 = .ok (.iload_n 3, 1) := by decide +kernel
theorem dL_law_440 : decode cL_law 440 = .ok (.iconst 2, 1) := by decide +kernel
theorem dL_law_441 : decode cL_law 441 = .ok (.iadd, 1) := by decide +kernel
theorem dL_law_442 : decode cL_law 442 = .ok (.iaload, 1) := by decide +kernel
theorem dL_law_443 : decode cL_law 443 = .ok (.aload_n 0, 1) := by decide +kernel
theorem dL_law_444 : decode cL_law 444 = .ok (.iload_n 3, 1) := by decide +kernel
theorem dL_law_445 : decode cL_law 445 = .ok (.iconst 3, 1) := by decide +kernel
theorem dL_law_446 : decode cL_law 446 = .ok (.iadd, 1) := by decide +kernel
theorem dL_law_447 : decode cL_law 447 = .ok (.iaload, 1) := by decide +kernel
theorem dL_law_448 : decode cL_law 448 = .ok (.aload_n 0, 1) := by decide +kernel
theorem dL_law_449 : decode cL_law 449 = .ok (.iload_n 3, 1) := by decide +kernel
theorem dL_law_450 : decode cL_law 450 = .ok (.iconst 4, 1) := by decide +kernel
theorem dL_law_451 : decode cL_law 451 = .ok (.iadd, 1) := by decide +kernel
theorem dL_law_452 : decode cL_law 452 = .ok (.iaload, 1) := by decide +kernel
theorem dL_law_453 : decode cL_law 453 = .ok (.ifCond .eq 7, 3) := by decide +kernel
theorem dL_law_456 : decode cL_law 456 = .ok (.iconst 1, 1) := by decide +kernel
theorem dL_law_457 : decode cL_law 457 = .ok (.goto 4, 3) := by decide +kernel
theorem dL_law_460 : decode cL_law 460 = .ok (.iconst 0, 1) := by decide +kernel
theorem dL_law_461 : decode cL_law 461 = .ok (.invokevirtual 48, 3) := by decide +kernel
theorem dL_law_464 : decode cL_law 464 = .ok (.if_icmp .eq 759, 3) := by decide +kernel
theorem dL_law_467 : decode cL_law 467 = .ok (.iconst 0, 1) := by decide +kernel
theorem dL_law_468 : decode cL_law 468 = .ok (.ireturn, 1) := by decide +kernel
theorem dL_law_469 : decode cL_law 469 = .ok (.aload_n 1, 1) := by decide +kernel
theorem dL_law_470 : decode cL_law 470 = .ok (.aload_n 0, 1) := by decide +kernel
theorem dL_law_471 : decode cL_law 471 = .ok (.iload_n 3, 1) := by decide +kernel
theorem dL_law_472 : decode cL_law 472 = .ok (.iconst 1, 1) := by decide +kernel
theorem dL_law_473 : decode cL_law 473 = .ok (.iadd, 1) := by decide +kernel
theorem dL_law_474 : decode cL_law 474 = .ok (.iaload, 1) := by decide +kernel
theorem dL_law_475 : decode cL_law 475 = .ok (.aload_n 0, 1) := by decide +kernel
theorem dL_law_476 : decode cL_law 476 = .ok (.iload_n 3, 1) := by decide +kernel
theorem dL_law_477 : decode cL_law 477 = .ok (.iconst 2, 1) := by decide +kernel
theorem dL_law_478 : decode cL_law 478 = .ok (.iadd, 1) := by decide +kernel
theorem dL_law_479 : decode cL_law 479 = .ok (.iaload, 1) := by decide +kernel
theorem dL_law_480 : decode cL_law 480 = .ok (.invokevirtual 49, 3) := by decide +kernel
theorem dL_law_483 : decode cL_law 483 = .ok (.aload_n 2, 1) := by decide +kernel
theorem dL_law_484 : decode cL_law 484 = .ok (.aload_n 0, 1) := by decide +kernel
theorem dL_law_485 : decode cL_law 485 = .ok (.iload_n 3, 1) := by decide +kernel
theorem dL_law_486 : decode cL_law 486 = .ok (.iconst 1, 1) := by decide +kernel
theorem dL_law_487 : decode cL_law 487 = .ok (.iadd, 1) := by decide +kernel
theorem dL_law_488 : decode cL_law 488 = .ok (.iaload, 1) := by decide +kernel
theorem dL_law_489 : decode cL_law 489 = .ok (.aload_n 0, 1) := by decide +kernel
theorem dL_law_490 : decode cL_law 490 = .ok (.iload_n 3, 1) := by decide +kernel
theorem dL_law_491 : decode cL_law 491 = .ok (.iconst 2, 1) := by decide +kernel
theorem dL_law_492 : decode cL_law 492 = .ok (.iadd, 1) := by decide +kernel
theorem dL_law_493 : decode cL_law 493 = .ok (.iaload, 1) := by decide +kernel
theorem dL_law_494 : decode cL_law 494 = .ok (.invokevirtual 52, 3) := by decide +kernel
theorem dL_law_497 : decode cL_law 497 = .ok (.if_icmp .eq 726, 3) := by decide +kernel
theorem dL_law_500 : decode cL_law 500 = .ok (.iconst 0, 1) := by decide +kernel
theorem dL_law_501 : decode cL_law 501 = .ok (.ireturn, 1) := by decide +kernel
theorem dL_law_502 : decode cL_law 502 = .ok (.aload_n 1, 1) := by decide +kernel
theorem dL_law_503 : decode cL_law 503 = .ok (.aload_n 0, 1) := by decide +kernel
theorem dL_law_504 : decode cL_law 504 = .ok (.iload_n 3, 1) := by decide +kernel
theorem dL_law_505 : decode cL_law 505 = .ok (.iconst 1, 1) := by decide +kernel
theorem dL_law_506 : decode cL_law 506 = .ok (.iadd, 1) := by decide +kernel
theorem dL_law_507 : decode cL_law 507 = .ok (.iaload, 1) := by decide +kernel
theorem dL_law_508 : decode cL_law 508 = .ok (.invokevirtual 53, 3) := by decide +kernel
theorem dL_law_511 : decode cL_law 511 = .ok (.aload_n 2, 1) := by decide +kernel
theorem dL_law_512 : decode cL_law 512 = .ok (.aload_n 0, 1) := by decide +kernel
theorem dL_law_513 : decode cL_law 513 = .ok (.iload_n 3, 1) := by decide +kernel
theorem dL_law_514 : decode cL_law 514 = .ok (.iconst 1, 1) := by decide +kernel
theorem dL_law_515 : decode cL_law 515 = .ok (.iadd, 1) := by decide +kernel
theorem dL_law_516 : decode cL_law 516 = .ok (.iaload, 1) := by decide +kernel
theorem dL_law_517 : decode cL_law 517 = .ok (.invokevirtual 56, 3) := by decide +kernel
theorem dL_law_520 : decode cL_law 520 = .ok (.if_icmp .eq 703, 3) := by decide +kernel
theorem dL_law_523 : decode cL_law 523 = .ok (.iconst 0, 1) := by decide +kernel
theorem dL_law_524 : decode cL_law 524 = .ok (.ireturn, 1) := by decide +kernel
theorem dL_law_525 : decode cL_law 525 = .ok (.aload_n 1, 1) := by decide +kernel
theorem dL_law_526 : decode cL_law 526 = .ok (.aload_n 0, 1) := by decide +kernel
theorem dL_law_527 : decode cL_law 527 = .ok (.iload_n 3, 1) := by decide +kernel
theorem dL_law_528 : decode cL_law 528 = .ok (.iconst 1, 1) := by decide +kernel
theorem dL_law_529 : decode cL_law 529 = .ok (.iadd, 1) := by decide +kernel
theorem dL_law_530 : decode cL_law 530 = .ok (.iaload, 1) := by decide +kernel
theorem dL_law_531 : decode cL_law 531 = .ok (.invokevirtual 57, 3) := by decide +kernel
theorem dL_law_534 : decode cL_law 534 = .ok (.aload_n 2, 1) := by decide +kernel
theorem dL_law_535 : decode cL_law 535 = .ok (.aload_n 0, 1) := by decide +kernel
theorem dL_law_536 : decode cL_law 536 = .ok (.iload_n 3, 1) := by decide +kernel
theorem dL_law_537 : decode cL_law 537 = .ok (.iconst 1, 1) := by decide +kernel
theorem dL_law_538 : decode cL_law 538 = .ok (.iadd, 1) := by decide +kernel
theorem dL_law_539 : decode cL_law 539 = .ok (.iaload, 1) := by decide +kernel
theorem dL_law_540 : decode cL_law 540 = .ok (.invokevirtual 60, 3) := by decide +kernel
theorem dL_law_543 : decode cL_law 543 = .ok (.if_icmp .eq 680, 3) := by decide +kernel
theorem dL_law_546 : decode cL_law 546 = .ok (.iconst 0, 1) := by decide +kernel
theorem dL_law_547 : decode cL_law 547 = .ok (.ireturn, 1) := by decide +kernel
theorem dL_law_548 : decode cL_law 548 = .ok (.aload_n 1, 1) := by decide +kernel
theorem dL_law_549 : decode cL_law 549 = .ok (.aload_n 0, 1) := by decide +kernel
theorem dL_law_550 : decode cL_law 550 = .ok (.iload_n 3, 1) := by decide +kernel
theorem dL_law_551 : decode cL_law 551 = .ok (.iconst 1, 1) := by decide +kernel
theorem dL_law_552 : decode cL_law 552 = .ok (.iadd, 1) := by decide +kernel
theorem dL_law_553 : decode cL_law 553 = .ok (.iaload, 1) := by decide +kernel
theorem dL_law_554 : decode cL_law 554 = .ok (.aload_n 0, 1) := by decide +kernel
theorem dL_law_555 : decode cL_law 555 = .ok (.iload_n 3, 1) := by decide +kernel
theorem dL_law_556 : decode cL_law 556 = .ok (.iconst 2, 1) := by decide +kernel
theorem dL_law_557 : decode cL_law 557 = .ok (.iadd, 1) := by decide +kernel
theorem dL_law_558 : decode cL_law 558 = .ok (.iaload, 1) := by decide +kernel
theorem dL_law_559 : decode cL_law 559 = .ok (.aload_n 0, 1) := by decide +kernel
theorem dL_law_560 : decode cL_law 560 = .ok (.iload_n 3, 1) := by decide +kernel
theorem dL_law_561 : decode cL_law 561 = .ok (.iconst 3, 1) := by decide +kernel
theorem dL_law_562 : decode cL_law 562 = .ok (.iadd, 1) := by decide +kernel
theorem dL_law_563 : decode cL_law 563 = .ok (.iaload, 1) := by decide +kernel
theorem dL_law_564 : decode cL_law 564 = .ok (.invokevirtual 61, 3) := by decide +kernel
theorem dL_law_567 : decode cL_law 567 = .ok (.aload_n 2, 1) := by decide +kernel
theorem dL_law_568 : decode cL_law 568 = .ok (.aload_n 0, 1) := by decide +kernel
theorem dL_law_569 : decode cL_law 569 = .ok (.iload_n 3, 1) := by decide +kernel
theorem dL_law_570 : decode cL_law 570 = .ok (.iconst 1, 1) := by decide +kernel
theorem dL_law_571 : decode cL_law 571 = .ok (.iadd, 1) := by decide +kernel
theorem dL_law_572 : decode cL_law 572 = .ok (.iaload, 1) := by decide +kernel
theorem dL_law_573 : decode cL_law 573 = .ok (.aload_n 0, 1) := by decide +kernel
theorem dL_law_574 : decode cL_law 574 = .ok (.iload_n 3, 1) := by decide +kernel
theorem dL_law_575 : decode cL_law 575 = .ok (.iconst 2, 1) := by decide +kernel
theorem dL_law_576 : decode cL_law 576 = .ok (.iadd, 1) := by decide +kernel
theorem dL_law_577 : decode cL_law 577 = .ok (.iaload, 1) := by decide +kernel
theorem dL_law_578 : decode cL_law 578 = .ok (.aload_n 0, 1) := by decide +kernel
theorem dL_law_579 : decode cL_law 579 = .ok (.iload_n 3, 1) := by decide +kernel
theorem dL_law_580 : decode cL_law 580 = .ok (.iconst 3, 1) := by decide +kernel
theorem dL_law_581 : decode cL_law 581 = .ok (.iadd, 1) := by decide +kernel
theorem dL_law_582 : decode cL_law 582 = .ok (.iaload, 1) := by decide +kernel
theorem dL_law_583 : decode cL_law 583 = .ok (.invokevirtual 64, 3) := by decide +kernel
theorem dL_law_586 : decode cL_law 586 = .ok (.if_icmp .eq 637, 3) := by decide +kernel
theorem dL_law_589 : decode cL_law 589 = .ok (.iconst 0, 1) := by decide +kernel
theorem dL_law_590 : decode cL_law 590 = .ok (.ireturn, 1) := by decide +kernel
theorem dL_law_591 : decode cL_law 591 = .ok (.aload_n 1, 1) := by decide +kernel
theorem dL_law_592 : decode cL_law 592 = .ok (.aload_n 0, 1) := by decide +kernel
theorem dL_law_593 : decode cL_law 593 = .ok (.iload_n 3, 1) := by decide +kernel
theorem dL_law_594 : decode cL_law 594 = .ok (.iconst 1, 1) := by decide +kernel
theorem dL_law_595 : decode cL_law 595 = .ok (.iadd, 1) := by decide +kernel
theorem dL_law_596 : decode cL_law 596 = .ok (.iaload, 1) := by decide +kernel
theorem dL_law_597 : decode cL_law 597 = .ok (.invokevirtual 65, 3) := by decide +kernel
theorem dL_law_600 : decode cL_law 600 = .ok (.aload_n 2, 1) := by decide +kernel
theorem dL_law_601 : decode cL_law 601 = .ok (.aload_n 0, 1) := by decide +kernel
theorem dL_law_602 : decode cL_law 602 = .ok (.iload_n 3, 1) := by decide +kernel
theorem dL_law_603 : decode cL_law 603 = .ok (.iconst 1, 1) := by decide +kernel
theorem dL_law_604 : decode cL_law 604 = .ok (.iadd, 1) := by decide +kernel
theorem dL_law_605 : decode cL_law 605 = .ok (.iaload, 1) := by decide +kernel
theorem dL_law_606 : decode cL_law 606 = .ok (.invokevirtual 69, 3) := by decide +kernel
theorem dL_law_609 : decode cL_law 609 = .ok (.lcmp, 1) := by decide +kernel
theorem dL_law_610 : decode cL_law 610 = .ok (.ifCond .eq 613, 3) := by decide +kernel
theorem dL_law_613 : decode cL_law 613 = .ok (.iconst 0, 1) := by decide +kernel
theorem dL_law_614 : decode cL_law 614 = .ok (.ireturn, 1) := by decide +kernel
theorem dL_law_615 : decode cL_law 615 = .ok (.aload_n 1, 1) := by decide +kernel
theorem dL_law_616 : decode cL_law 616 = .ok (.aload_n 0, 1) := by decide +kernel
theorem dL_law_617 : decode cL_law 617 = .ok (.iload_n 3, 1) := by decide +kernel
theorem dL_law_618 : decode cL_law 618 = .ok (.iconst 1, 1) := by decide +kernel
theorem dL_law_619 : decode cL_law 619 = .ok (.iadd, 1) := by decide +kernel
theorem dL_law_620 : decode cL_law 620 = .ok (.iaload, 1) := by decide +kernel
theorem dL_law_621 : decode cL_law 621 = .ok (.invokevirtual 70, 3) := by decide +kernel
theorem dL_law_624 : decode cL_law 624 = .ok (.aload_n 2, 1) := by decide +kernel
theorem dL_law_625 : decode cL_law 625 = .ok (.aload_n 0, 1) := by decide +kernel
theorem dL_law_626 : decode cL_law 626 = .ok (.iload_n 3, 1) := by decide +kernel
theorem dL_law_627 : decode cL_law 627 = .ok (.iconst 1, 1) := by decide +kernel
theorem dL_law_628 : decode cL_law 628 = .ok (.iadd, 1) := by decide +kernel
theorem dL_law_629 : decode cL_law 629 = .ok (.iaload, 1) := by decide +kernel
theorem dL_law_630 : decode cL_law 630 = .ok (.invokevirtual 73, 3) := by decide +kernel
theorem dL_law_633 : decode cL_law 633 = .ok (.if_icmp .eq 590, 3) := by decide +kernel
theorem dL_law_636 : decode cL_law 636 = .ok (.iconst 0, 1) := by decide +kernel
theorem dL_law_637 : decode cL_law 637 = .ok (.ireturn, 1) := by decide +kernel
theorem dL_law_638 : decode cL_law 638 = .ok (.aload_n 1, 1) := by decide +kernel
theorem dL_law_639 : decode cL_law 639 = .ok (.aload_n 0, 1) := by decide +kernel
theorem dL_law_640 : decode cL_law 640 = .ok (.iload_n 3, 1) := by decide +kernel
theorem dL_law_641 : decode cL_law 641 = .ok (.iconst 1, 1) := by decide +kernel
theorem dL_law_642 : decode cL_law 642 = .ok (.iadd, 1) := by decide +kernel
theorem dL_law_643 : decode cL_law 643 = .ok (.iaload, 1) := by decide +kernel
theorem dL_law_644 : decode cL_law 644 = .ok (.aload_n 0, 1) := by decide +kernel
theorem dL_law_645 : decode cL_law 645 = .ok (.iload_n 3, 1) := by decide +kernel
theorem dL_law_646 : decode cL_law 646 = .ok (.iconst 2, 1) := by decide +kernel
theorem dL_law_647 : decode cL_law 647 = .ok (.iadd, 1) := by decide +kernel
theorem dL_law_648 : decode cL_law 648 = .ok (.iaload, 1) := by decide +kernel
theorem dL_law_649 : decode cL_law 649 = .ok (.invokevirtual 74, 3) := by decide +kernel
theorem dL_law_652 : decode cL_law 652 = .ok (.aload_n 2, 1) := by decide +kernel
theorem dL_law_653 : decode cL_law 653 = .ok (.aload_n 0, 1) := by decide +kernel
theorem dL_law_654 : decode cL_law 654 = .ok (.iload_n 3, 1) := by decide +kernel
theorem dL_law_655 : decode cL_law 655 = .ok (.iconst 1, 1) := by decide +kernel
theorem dL_law_656 : decode cL_law 656 = .ok (.iadd, 1) := by decide +kernel
theorem dL_law_657 : decode cL_law 657 = .ok (.iaload, 1) := by decide +kernel
theorem dL_law_658 : decode cL_law 658 = .ok (.aload_n 0, 1) := by decide +kernel
theorem dL_law_659 : decode cL_law 659 = .ok (.iload_n 3, 1) := by decide +kernel
theorem dL_law_660 : decode cL_law 660 = .ok (.iconst 2, 1) := by decide +kernel
theorem dL_law_661 : decode cL_law 661 = .ok (.iadd, 1) := by decide +kernel
theorem dL_law_662 : decode cL_law 662 = .ok (.iaload, 1) := by decide +kernel
theorem dL_law_663 : decode cL_law 663 = .ok (.invokevirtual 78, 3) := by decide +kernel
theorem dL_law_666 : decode cL_law 666 = .ok (.lcmp, 1) := by decide +kernel
theorem dL_law_667 : decode cL_law 667 = .ok (.ifCond .eq 556, 3) := by decide +kernel
theorem dL_law_670 : decode cL_law 670 = .ok (.iconst 0, 1) := by decide +kernel
theorem dL_law_671 : decode cL_law 671 = .ok (.ireturn, 1) := by decide +kernel
theorem dL_law_672 : decode cL_law 672 = .ok (.aload_n 1, 1) := by decide +kernel
theorem dL_law_673 : decode cL_law 673 = .ok (.aload_n 0, 1) := by decide +kernel
theorem dL_law_674 : decode cL_law 674 = .ok (.iload_n 3, 1) := by decide +kernel
theorem dL_law_675 : decode cL_law 675 = .ok (.iconst 1, 1) := by decide +kernel
theorem dL_law_676 : decode cL_law 676 = .ok (.iadd, 1) := by decide +kernel
theorem dL_law_677 : decode cL_law 677 = .ok (.iaload, 1) := by decide +kernel
theorem dL_law_678 : decode cL_law 678 = .ok (.aload_n 0, 1) := by decide +kernel
theorem dL_law_679 : decode cL_law 679 = .ok (.iload_n 3, 1) := by decide +kernel
theorem dL_law_680 : decode cL_law 680 = .ok (.iconst 2, 1) := by decide +kernel
theorem dL_law_681 : decode cL_law 681 = .ok (.iadd, 1) := by decide +kernel
theorem dL_law_682 : decode cL_law 682 = .ok (.iaload, 1) := by decide +kernel
theorem dL_law_683 : decode cL_law 683 = .ok (.invokevirtual 79, 3) := by decide +kernel
theorem dL_law_686 : decode cL_law 686 = .ok (.aload_n 2, 1) := by decide +kernel
theorem dL_law_687 : decode cL_law 687 = .ok (.aload_n 0, 1) := by decide +kernel
theorem dL_law_688 : decode cL_law 688 = .ok (.iload_n 3, 1) := by decide +kernel
theorem dL_law_689 : decode cL_law 689 = .ok (.iconst 1, 1) := by decide +kernel
theorem dL_law_690 : decode cL_law 690 = .ok (.iadd, 1) := by decide +kernel
theorem dL_law_691 : decode cL_law 691 = .ok (.iaload, 1) := by decide +kernel
theorem dL_law_692 : decode cL_law 692 = .ok (.aload_n 0, 1) := by decide +kernel
theorem dL_law_693 : decode cL_law 693 = .ok (.iload_n 3, 1) := by decide +kernel
theorem dL_law_694 : decode cL_law 694 = .ok (.iconst 2, 1) := by decide +kernel
theorem dL_law_695 : decode cL_law 695 = .ok (.iadd, 1) := by decide +kernel
theorem dL_law_696 : decode cL_law 696 = .ok (.iaload, 1) := by decide +kernel
theorem dL_law_697 : decode cL_law 697 = .ok (.invokevirtual 82, 3) := by decide +kernel
theorem dL_law_700 : decode cL_law 700 = .ok (.lcmp, 1) := by decide +kernel
theorem dL_law_701 : decode cL_law 701 = .ok (.ifCond .eq 522, 3) := by decide +kernel
theorem dL_law_704 : decode cL_law 704 = .ok (.iconst 0, 1) := by decide +kernel
theorem dL_law_705 : decode cL_law 705 = .ok (.ireturn, 1) := by decide +kernel
theorem dL_law_706 : decode cL_law 706 = .ok (.aload_n 1, 1) := by decide +kernel
theorem dL_law_707 : decode cL_law 707 = .ok (.aload_n 0, 1) := by decide +kernel
theorem dL_law_708 : decode cL_law 708 = .ok (.iload_n 3, 1) := by decide +kernel
theorem dL_law_709 : decode cL_law 709 = .ok (.iconst 1, 1) := by decide +kernel
theorem dL_law_710 : decode cL_law 710 = .ok (.iadd, 1) := by decide +kernel
theorem dL_law_711 : decode cL_law 711 = .ok (.iaload, 1) := by decide +kernel
theorem dL_law_712 : decode cL_law 712 = .ok (.invokevirtual 83, 3) := by decide +kernel
theorem dL_law_715 : decode cL_law 715 = .ok (.aload_n 2, 1) := by decide +kernel
theorem dL_law_716 : decode cL_law 716 = .ok (.aload_n 0, 1) := by decide +kernel
theorem dL_law_717 : decode cL_law 717 = .ok (.iload_n 3, 1) := by decide +kernel
theorem dL_law_718 : decode cL_law 718 = .ok (.iconst 1, 1) := by decide +kernel
theorem dL_law_719 : decode cL_law 719 = .ok (.iadd, 1) := by decide +kernel
theorem dL_law_720 : decode cL_law 720 = .ok (.iaload, 1) := by decide +kernel
theorem dL_law_721 : decode cL_law 721 = .ok (.invokevirtual 86, 3) := by decide +kernel
theorem dL_law_724 : decode cL_law 724 = .ok (.if_icmp .eq 499, 3) := by decide +kernel
theorem dL_law_727 : decode cL_law 727 = .ok (.iconst 0, 1) := by decide +kernel
theorem dL_law_728 : decode cL_law 728 = .ok (.ireturn, 1) := by decide +kernel
theorem dL_law_729 : decode cL_law 729 = .ok (.aload_n 1, 1) := by decide +kernel
theorem dL_law_730 : decode cL_law 730 = .ok (.invokevirtual 87, 3) := by decide +kernel
theorem dL_law_733 : decode cL_law 733 = .ok (.aload_n 2, 1) := by decide +kernel
theorem dL_law_734 : decode cL_law 734 = .ok (.invokevirtual 91, 3) := by decide +kernel
theorem dL_law_737 : decode cL_law 737 = .ok (.if_icmp .eq 486, 3) := by decide +kernel
theorem dL_law_740 : decode cL_law 740 = .ok (.iconst 0, 1) := by decide +kernel
theorem dL_law_741 : decode cL_law 741 = .ok (.ireturn, 1) := by decide +kernel
theorem dL_law_742 : decode cL_law 742 = .ok (.aload_n 1, 1) := by decide +kernel
theorem dL_law_743 : decode cL_law 743 = .ok (.aload_n 0, 1) := by decide +kernel
theorem dL_law_744 : decode cL_law 744 = .ok (.iload_n 3, 1) := by decide +kernel
theorem dL_law_745 : decode cL_law 745 = .ok (.iconst 1, 1) := by decide +kernel
theorem dL_law_746 : decode cL_law 746 = .ok (.iadd, 1) := by decide +kernel
theorem dL_law_747 : decode cL_law 747 = .ok (.iaload, 1) := by decide +kernel
theorem dL_law_748 : decode cL_law 748 = .ok (.invokevirtual 92, 3) := by decide +kernel
theorem dL_law_751 : decode cL_law 751 = .ok (.aload_n 2, 1) := by decide +kernel
theorem dL_law_752 : decode cL_law 752 = .ok (.aload_n 0, 1) := by decide +kernel
theorem dL_law_753 : decode cL_law 753 = .ok (.iload_n 3, 1) := by decide +kernel
theorem dL_law_754 : decode cL_law 754 = .ok (.iconst 1, 1) := by decide +kernel
theorem dL_law_755 : decode cL_law 755 = .ok (.iadd, 1) := by decide +kernel
theorem dL_law_756 : decode cL_law 756 = .ok (.iaload, 1) := by decide +kernel
theorem dL_law_757 : decode cL_law 757 = .ok (.invokevirtual 95, 3) := by decide +kernel
theorem dL_law_760 : decode cL_law 760 = .ok (.if_icmp .eq 463, 3) := by decide +kernel
theorem dL_law_763 : decode cL_law 763 = .ok (.iconst 0, 1) := by decide +kernel
theorem dL_law_764 : decode cL_law 764 = .ok (.ireturn, 1) := by decide +kernel
theorem dL_law_765 : decode cL_law 765 = .ok (.aload_n 1, 1) := by decide +kernel
theorem dL_law_766 : decode cL_law 766 = .ok (.aload_n 0, 1) := by decide +kernel
theorem dL_law_767 : decode cL_law 767 = .ok (.iload_n 3, 1) := by decide +kernel
theorem dL_law_768 : decode cL_law 768 = .ok (.iconst 1, 1) := by decide +kernel
theorem dL_law_769 : decode cL_law 769 = .ok (.iadd, 1) := by decide +kernel
theorem dL_law_770 : decode cL_law 770 = .ok (.iaload, 1) := by decide +kernel
theorem dL_law_771 : decode cL_law 771 = .ok (.invokevirtual 96, 3) := by decide +kernel
theorem dL_law_774 : decode cL_law 774 = .ok (.aload_n 2, 1) := by decide +kernel
theorem dL_law_775 : decode cL_law 775 = .ok (.aload_n 0, 1) := by decide +kernel
theorem dL_law_776 : decode cL_law 776 = .ok (.iload_n 3, 1) := by decide +kernel
theorem dL_law_777 : decode cL_law 777 = .ok (.iconst 1, 1) := by decide +kernel
theorem dL_law_778 : decode cL_law 778 = .ok (.iadd, 1) := by decide +kernel
theorem dL_law_779 : decode cL_law 779 = .ok (.iaload, 1) := by decide +kernel
theorem dL_law_780 : decode cL_law 780 = .ok (.invokevirtual 99, 3) := by decide +kernel
theorem dL_law_783 : decode cL_law 783 = .ok (.lcmp, 1) := by decide +kernel
theorem dL_law_784 : decode cL_law 784 = .ok (.ifCond .eq 439, 3) := by decide +kernel
theorem dL_law_787 : decode cL_law 787 = .ok (.iconst 0, 1) := by decide +kernel
theorem dL_law_788 : decode cL_law 788 = .ok (.ireturn, 1) := by decide +kernel
theorem dL_law_789 : decode cL_law 789 = .ok (.aload_n 1, 1) := by decide +kernel
theorem dL_law_790 : decode cL_law 790 = .ok (.invokevirtual 100, 3) := by decide +kernel
theorem dL_law_793 : decode cL_law 793 = .ok (.aload_n 2, 1) := by decide +kernel
theorem dL_law_794 : decode cL_law 794 = .ok (.invokevirtual 104, 3) := by decide +kernel
theorem dL_law_797 : decode cL_law 797 = .ok (.lcmp, 1) := by decide +kernel
theorem dL_law_798 : decode cL_law 798 = .ok (.ifCond .eq 425, 3) := by decide +kernel
theorem dL_law_801 : decode cL_law 801 = .ok (.iconst 0, 1) := by decide +kernel
theorem dL_law_802 : decode cL_law 802 = .ok (.ireturn, 1) := by decide +kernel
theorem dL_law_803 : decode cL_law 803 = .ok (.aload_n 1, 1) := by decide +kernel
theorem dL_law_804 : decode cL_law 804 = .ok (.invokevirtual 105, 3) := by decide +kernel
theorem dL_law_807 : decode cL_law 807 = .ok (.aload_n 2, 1) := by decide +kernel
theorem dL_law_808 : decode cL_law 808 = .ok (.invokevirtual 108, 3) := by decide +kernel
theorem dL_law_811 : decode cL_law 811 = .ok (.if_icmp .eq 412, 3) := by decide +kernel
theorem dL_law_814 : decode cL_law 814 = .ok (.iconst 0, 1) := by decide +kernel
theorem dL_law_815 : decode cL_law 815 = .ok (.ireturn, 1) := by decide +kernel
theorem dL_law_816 : decode cL_law 816 = .ok (.aload_n 1, 1) := by decide +kernel
theorem dL_law_817 : decode cL_law 817 = .ok (.aload_n 0, 1) := by decide +kernel
theorem dL_law_818 : decode cL_law 818 = .ok (.iload_n 3, 1) := by decide +kernel
theorem dL_law_819 : decode cL_law 819 = .ok (.iconst 1, 1) := by decide +kernel
theorem dL_law_820 : decode cL_law 820 = .ok (.iadd, 1) := by decide +kernel
theorem dL_law_821 : decode cL_law 821 = .ok (.iaload, 1) := by decide +kernel
theorem dL_law_822 : decode cL_law 822 = .ok (.invokevirtual 109, 3) := by decide +kernel
theorem dL_law_825 : decode cL_law 825 = .ok (.aload_n 2, 1) := by decide +kernel
theorem dL_law_826 : decode cL_law 826 = .ok (.aload_n 0, 1) := by decide +kernel
theorem dL_law_827 : decode cL_law 827 = .ok (.iload_n 3, 1) := by decide +kernel
theorem dL_law_828 : decode cL_law 828 = .ok (.iconst 1, 1) := by decide +kernel
theorem dL_law_829 : decode cL_law 829 = .ok (.iadd, 1) := by decide +kernel
theorem dL_law_830 : decode cL_law 830 = .ok (.iaload, 1) := by decide +kernel
theorem dL_law_831 : decode cL_law 831 = .ok (.invokevirtual 112, 3) := by decide +kernel
theorem dL_law_834 : decode cL_law 834 = .ok (.if_icmp .eq 389, 3) := by decide +kernel
theorem dL_law_837 : decode cL_law 837 = .ok (.iconst 0, 1) := by decide +kernel
theorem dL_law_838 : decode cL_law 838 = .ok (.ireturn, 1) := by decide +kernel
theorem dL_law_839 : decode cL_law 839 = .ok (.aload_n 1, 1) := by decide +kernel
theorem dL_law_840 : decode cL_law 840 = .ok (.aload_n 0, 1) := by decide +kernel
theorem dL_law_841 : decode cL_law 841 = .ok (.iload_n 3, 1) := by decide +kernel
theorem dL_law_842 : decode cL_law 842 = .ok (.iconst 1, 1) := by decide +kernel
theorem dL_law_843 : decode cL_law 843 = .ok (.iadd, 1) := by decide +kernel
theorem dL_law_844 : decode cL_law 844 = .ok (.iaload, 1) := by decide +kernel
theorem dL_law_845 : decode cL_law 845 = .ok (.aload_n 0, 1) := by decide +kernel
theorem dL_law_846 : decode cL_law 846 = .ok (.iload_n 3, 1) := by decide +kernel
theorem dL_law_847 : decode cL_law 847 = .ok (.iconst 2, 1) := by decide +kernel
theorem dL_law_848 : decode cL_law 848 = .ok (.iadd, 1) := by decide +kernel
theorem dL_law_849 : decode cL_law 849 = .ok (.iaload, 1) := by decide +kernel
theorem dL_law_850 : decode cL_law 850 = .ok (.invokevirtual 113, 3) := by decide +kernel
theorem dL_law_853 : decode cL_law 853 = .ok (.aload_n 2, 1) := by decide +kernel
theorem dL_law_854 : decode cL_law 854 = .ok (.aload_n 0, 1) := by decide +kernel
theorem dL_law_855 : decode cL_law 855 = .ok (.iload_n 3, 1) := by decide +kernel
theorem dL_law_856 : decode cL_law 856 = .ok (.iconst 1, 1) := by decide +kernel
theorem dL_law_857 : decode cL_law 857 = .ok (.iadd, 1) := by decide +kernel
theorem dL_law_858 : decode cL_law 858 = .ok (.iaload, 1) := by decide +kernel
theorem dL_law_859 : decode cL_law 859 = .ok (.aload_n 0, 1) := by decide +kernel
theorem dL_law_860 : decode cL_law 860 = .ok (.iload_n 3, 1) := by decide +kernel
theorem dL_law_861 : decode cL_law 861 = .ok (.iconst 2, 1) := by decide +kernel
theorem dL_law_862 : decode cL_law 862 = .ok (.iadd, 1) := by decide +kernel
theorem dL_law_863 : decode cL_law 863 = .ok (.iaload, 1) := by decide +kernel
theorem dL_law_864 : decode cL_law 864 = .ok (.invokevirtual 116, 3) := by decide +kernel
theorem dL_law_867 : decode cL_law 867 = .ok (.if_icmp .eq 356, 3) := by decide +kernel
theorem dL_law_870 : decode cL_law 870 = .ok (.iconst 0, 1) := by decide +kernel
theorem dL_law_871 : decode cL_law 871 = .ok (.ireturn, 1) := by decide +kernel
theorem dL_law_872 : decode cL_law 872 = .ok (.aload_n 1, 1) := by decide +kernel
theorem dL_law_873 : decode cL_law 873 = .ok (.aload_n 0, 1) := by decide +kernel
theorem dL_law_874 : decode cL_law 874 = .ok (.iload_n 3, 1) := by decide +kernel
theorem dL_law_875 : decode cL_law 875 = .ok (.iconst 1, 1) := by decide +kernel
theorem dL_law_876 : decode cL_law 876 = .ok (.iadd, 1) := by decide +kernel
theorem dL_law_877 : decode cL_law 877 = .ok (.iaload, 1) := by decide +kernel
theorem dL_law_878 : decode cL_law 878 = .ok (.aload_n 0, 1) := by decide +kernel
theorem dL_law_879 : decode cL_law 879 = .ok (.iload_n 3, 1) := by decide +kernel
theorem dL_law_880 : decode cL_law 880 = .ok (.iconst 2, 1) := by decide +kernel
theorem dL_law_881 : decode cL_law 881 = .ok (.iadd, 1) := by decide +kernel
theorem dL_law_882 : decode cL_law 882 = .ok (.iaload, 1) := by decide +kernel
theorem dL_law_883 : decode cL_law 883 = .ok (.invokevirtual 117, 3) := by decide +kernel
theorem dL_law_886 : decode cL_law 886 = .ok (.aload_n 2, 1) := by decide +kernel
theorem dL_law_887 : decode cL_law 887 = .ok (.aload_n 0, 1) := by decide +kernel
theorem dL_law_888 : decode cL_law 888 = .ok (.iload_n 3, 1) := by decide +kernel
theorem dL_law_889 : decode cL_law 889 = .ok (.iconst 1, 1) := by decide +kernel
theorem dL_law_890 : decode cL_law 890 = .ok (.iadd, 1) := by decide +kernel
theorem dL_law_891 : decode cL_law 891 = .ok (.iaload, 1) := by decide +kernel
theorem dL_law_892 : decode cL_law 892 = .ok (.aload_n 0, 1) := by decide +kernel
theorem dL_law_893 : decode cL_law 893 = .ok (.iload_n 3, 1) := by decide +kernel
theorem dL_law_894 : decode cL_law 894 = .ok (.iconst 2, 1) := by decide +kernel
theorem dL_law_895 : decode cL_law 895 = .ok (.iadd, 1) := by decide +kernel
theorem dL_law_896 : decode cL_law 896 = .ok (.iaload, 1) := by decide +kernel
theorem dL_law_897 : decode cL_law 897 = .ok (.invokevirtual 120, 3) := by decide +kernel
theorem dL_law_900 : decode cL_law 900 = .ok (.if_icmp .eq 323, 3) := by decide +kernel
theorem dL_law_903 : decode cL_law 903 = .ok (.iconst 0, 1) := by decide +kernel
theorem dL_law_904 : decode cL_law 904 = .ok (.ireturn, 1) := by decide +kernel
theorem dL_law_905 : decode cL_law 905 = .ok (.aload_n 1, 1) := by decide +kernel
theorem dL_law_906 : decode cL_law 906 = .ok (.aload_n 0, 1) := by decide +kernel
theorem dL_law_907 : decode cL_law 907 = .ok (.iload_n 3, 1) := by decide +kernel
theorem dL_law_908 : decode cL_law 908 = .ok (.iconst 1, 1) := by decide +kernel
theorem dL_law_909 : decode cL_law 909 = .ok (.iadd, 1) := by decide +kernel
theorem dL_law_910 : decode cL_law 910 = .ok (.iaload, 1) := by decide +kernel
theorem dL_law_911 : decode cL_law 911 = .ok (.invokevirtual 121, 3) := by decide +kernel
theorem dL_law_914 : decode cL_law 914 = .ok (.aload_n 2, 1) := by decide +kernel
theorem dL_law_915 : decode cL_law 915 = .ok (.aload_n 0, 1) := by decide +kernel
theorem dL_law_916 : decode cL_law 916 = .ok (.iload_n 3, 1) := by decide +kernel
theorem dL_law_917 : decode cL_law 917 = .ok (.iconst 1, 1) := by decide +kernel
theorem dL_law_918 : decode cL_law 918 = .ok (.iadd, 1) := by decide +kernel
theorem dL_law_919 : decode cL_law 919 = .ok (.iaload, 1) := by decide +kernel
theorem dL_law_920 : decode cL_law 920 = .ok (.invokevirtual 124, 3) := by decide +kernel
theorem dL_law_923 : decode cL_law 923 = .ok (.if_icmp .eq 300, 3) := by decide +kernel
theorem dL_law_926 : decode cL_law 926 = .ok (.iconst 0, 1) := by decide +kernel
theorem dL_law_927 : decode cL_law 927 = .ok (.ireturn, 1) := by decide +kernel
theorem dL_law_928 : decode cL_law 928 = .ok (.aload_n 1, 1) := by decide +kernel
theorem dL_law_929 : decode cL_law 929 = .ok (.aload_n 0, 1) := by decide +kernel
theorem dL_law_930 : decode cL_law 930 = .ok (.iload_n 3, 1) := by decide +kernel
theorem dL_law_931 : decode cL_law 931 = .ok (.iconst 1, 1) := by decide +kernel
theorem dL_law_932 : decode cL_law 932 = .ok (.iadd, 1) := by decide +kernel
theorem dL_law_933 : decode cL_law 933 = .ok (.iaload, 1) := by decide +kernel
theorem dL_law_934 : decode cL_law 934 = .ok (.aload_n 0, 1) := by decide +kernel
theorem dL_law_935 : decode cL_law 935 = .ok (.iload_n 3, 1) := by decide +kernel
theorem dL_law_936 : decode cL_law 936 = .ok (.iconst 2, 1) := by decide +kernel
theorem dL_law_937 : decode cL_law 937 = .ok (.iadd, 1) := by decide +kernel
theorem dL_law_938 : decode cL_law 938 = .ok (.iaload, 1) := by decide +kernel
theorem dL_law_939 : decode cL_law 939 = .ok (.invokevirtual 125, 3) := by decide +kernel
theorem dL_law_942 : decode cL_law 942 = .ok (.aload_n 2, 1) := by decide +kernel
theorem dL_law_943 : decode cL_law 943 = .ok (.aload_n 0, 1) := by decide +kernel
theorem dL_law_944 : decode cL_law 944 = .ok (.iload_n 3, 1) := by decide +kernel
theorem dL_law_945 : decode cL_law 945 = .ok (.iconst 1, 1) := by decide +kernel
theorem dL_law_946 : decode cL_law 946 = .ok (.iadd, 1) := by decide +kernel
theorem dL_law_947 : decode cL_law 947 = .ok (.iaload, 1) := by decide +kernel
theorem dL_law_948 : decode cL_law 948 = .ok (.aload_n 0, 1) := by decide +kernel
theorem dL_law_949 : decode cL_law 949 = .ok (.iload_n 3, 1) := by decide +kernel
theorem dL_law_950 : decode cL_law 950 = .ok (.iconst 2, 1) := by decide +kernel
theorem dL_law_951 : decode cL_law 951 = .ok (.iadd, 1) := by decide +kernel
theorem dL_law_952 : decode cL_law 952 = .ok (.iaload, 1) := by decide +kernel
theorem dL_law_953 : decode cL_law 953 = .ok (.invokevirtual 128, 3) := by decide +kernel
theorem dL_law_956 : decode cL_law 956 = .ok (.lcmp, 1) := by decide +kernel
theorem dL_law_957 : decode cL_law 957 = .ok (.ifCond .eq 266, 3) := by decide +kernel
theorem dL_law_960 : decode cL_law 960 = .ok (.iconst 0, 1) := by decide +kernel
theorem dL_law_961 : decode cL_law 961 = .ok (.ireturn, 1) := by decide +kernel
theorem dL_law_962 : decode cL_law 962 = .ok (.aload_n 1, 1) := by decide +kernel
theorem dL_law_963 : decode cL_law 963 = .ok (.invokevirtual 129, 3) := by decide +kernel
theorem dL_law_966 : decode cL_law 966 = .ok (.aload_n 2, 1) := by decide +kernel
theorem dL_law_967 : decode cL_law 967 = .ok (.invokevirtual 132, 3) := by decide +kernel
theorem dL_law_970 : decode cL_law 970 = .ok (.lcmp, 1) := by decide +kernel
theorem dL_law_971 : decode cL_law 971 = .ok (.ifCond .eq 252, 3) := by decide +kernel
theorem dL_law_974 : decode cL_law 974 = .ok (.iconst 0, 1) := by decide +kernel
theorem dL_law_975 : decode cL_law 975 = .ok (.ireturn, 1) := by decide +kernel
theorem dL_law_976 : decode cL_law 976 = .ok (.aload_n 1, 1) := by decide +kernel
theorem dL_law_977 : decode cL_law 977 = .ok (.aload_n 0, 1) := by decide +kernel
theorem dL_law_978 : decode cL_law 978 = .ok (.iload_n 3, 1) := by decide +kernel
theorem dL_law_979 : decode cL_law 979 = .ok (.iconst 1, 1) := by decide +kernel
theorem dL_law_980 : decode cL_law 980 = .ok (.iadd, 1) := by decide +kernel
theorem dL_law_981 : decode cL_law 981 = .ok (.iaload, 1) := by decide +kernel
theorem dL_law_982 : decode cL_law 982 = .ok (.i2l, 1) := by decide +kernel
theorem dL_law_983 : decode cL_law 983 = .ok (.bipush 32, 2) := by decide +kernel
theorem dL_law_985 : decode cL_law 985 = .ok (.lshl, 1) := by decide +kernel
theorem dL_law_986 : decode cL_law 986 = .ok (.aload_n 0, 1) := by decide +kernel
theorem dL_law_987 : decode cL_law 987 = .ok (.iload_n 3, 1) := by decide +kernel
theorem dL_law_988 : decode cL_law 988 = .ok (.iconst 2, 1) := by decide +kernel
theorem dL_law_989 : decode cL_law 989 = .ok (.iadd, 1) := by decide +kernel
theorem dL_law_990 : decode cL_law 990 = .ok (.iaload, 1) := by decide +kernel
theorem dL_law_991 : decode cL_law 991 = .ok (.i2l, 1) := by decide +kernel
theorem dL_law_992 : decode cL_law 992 = .ok (.ldc2_w 28, 3) := by decide +kernel
theorem dL_law_995 : decode cL_law 995 = .ok (.land, 1) := by decide +kernel
theorem dL_law_996 : decode cL_law 996 = .ok (.lor, 1) := by decide +kernel
theorem dL_law_997 : decode cL_law 997 = .ok (.invokevirtual 133, 3) := by decide +kernel
theorem dL_law_1000 : decode cL_law 1000 = .ok (.aload_n 2, 1) := by decide +kernel
theorem dL_law_1001 : decode cL_law 1001 = .ok (.aload_n 0, 1) := by decide +kernel
theorem dL_law_1002 : decode cL_law 1002 = .ok (.iload_n 3, 1) := by decide +kernel
theorem dL_law_1003 : decode cL_law 1003 = .ok (.iconst 1, 1) := by decide +kernel
theorem dL_law_1004 : decode cL_law 1004 = .ok (.iadd, 1) := by decide +kernel
theorem dL_law_1005 : decode cL_law 1005 = .ok (.iaload, 1) := by decide +kernel
theorem dL_law_1006 : decode cL_law 1006 = .ok (.i2l, 1) := by decide +kernel
theorem dL_law_1007 : decode cL_law 1007 = .ok (.bipush 32, 2) := by decide +kernel
theorem dL_law_1009 : decode cL_law 1009 = .ok (.lshl, 1) := by decide +kernel
theorem dL_law_1010 : decode cL_law 1010 = .ok (.aload_n 0, 1) := by decide +kernel
theorem dL_law_1011 : decode cL_law 1011 = .ok (.iload_n 3, 1) := by decide +kernel
theorem dL_law_1012 : decode cL_law 1012 = .ok (.iconst 2, 1) := by decide +kernel
theorem dL_law_1013 : decode cL_law 1013 = .ok (.iadd, 1) := by decide +kernel
theorem dL_law_1014 : decode cL_law 1014 = .ok (.iaload, 1) := by decide +kernel
theorem dL_law_1015 : decode cL_law 1015 = .ok (.i2l, 1) := by decide +kernel
theorem dL_law_1016 : decode cL_law 1016 = .ok (.ldc2_w 28, 3) := by decide +kernel
theorem dL_law_1019 : decode cL_law 1019 = .ok (.land, 1) := by decide +kernel
theorem dL_law_1020 : decode cL_law 1020 = .ok (.lor, 1) := by decide +kernel
theorem dL_law_1021 : decode cL_law 1021 = .ok (.invokevirtual 137, 3) := by decide +kernel
theorem dL_law_1024 : decode cL_law 1024 = .ok (.if_icmp .eq 199, 3) := by decide +kernel
theorem dL_law_1027 : decode cL_law 1027 = .ok (.iconst 0, 1) := by decide +kernel
theorem dL_law_1028 : decode cL_law 1028 = .ok (.ireturn, 1) := by decide +kernel
theorem dL_law_1029 : decode cL_law 1029 = .ok (.aload_n 1, 1) := by decide +kernel
theorem dL_law_1030 : decode cL_law 1030 = .ok (.aload_n 0, 1) := by decide +kernel
theorem dL_law_1031 : decode cL_law 1031 = .ok (.iload_n 3, 1) := by decide +kernel
theorem dL_law_1032 : decode cL_law 1032 = .ok (.iconst 1, 1) := by decide +kernel
theorem dL_law_1033 : decode cL_law 1033 = .ok (.iadd, 1) := by decide +kernel
theorem dL_law_1034 : decode cL_law 1034 = .ok (.iaload, 1) := by decide +kernel
theorem dL_law_1035 : decode cL_law 1035 = .ok (.invokevirtual 138, 3) := by decide +kernel
theorem dL_law_1038 : decode cL_law 1038 = .ok (.aload_n 2, 1) := by decide +kernel
theorem dL_law_1039 : decode cL_law 1039 = .ok (.aload_n 0, 1) := by decide +kernel
theorem dL_law_1040 : decode cL_law 1040 = .ok (.iload_n 3, 1) := by decide +kernel
theorem dL_law_1041 : decode cL_law 1041 = .ok (.iconst 1, 1) := by decide +kernel
theorem dL_law_1042 : decode cL_law 1042 = .ok (.iadd, 1) := by decide +kernel
theorem dL_law_1043 : decode cL_law 1043 = .ok (.iaload, 1) := by decide +kernel
theorem dL_law_1044 : decode cL_law 1044 = .ok (.invokevirtual 141, 3) := by decide +kernel
theorem dL_law_1047 : decode cL_law 1047 = .ok (.if_icmp .eq 176, 3) := by decide +kernel
theorem dL_law_1050 : decode cL_law 1050 = .ok (.iconst 0, 1) := by decide +kernel
theorem dL_law_1051 : decode cL_law 1051 = .ok (.ireturn, 1) := by decide +kernel
theorem dL_law_1052 : decode cL_law 1052 = .ok (.aload_n 1, 1) := by decide +kernel
theorem dL_law_1053 : decode cL_law 1053 = .ok (.aload_n 0, 1) := by decide +kernel
theorem dL_law_1054 : decode cL_law 1054 = .ok (.iload_n 3, 1) := by decide +kernel
theorem dL_law_1055 : decode cL_law 1055 = .ok (.iconst 1, 1) := by decide +kernel
theorem dL_law_1056 : decode cL_law 1056 = .ok (.iadd, 1) := by decide +kernel
theorem dL_law_1057 : decode cL_law 1057 = .ok (.iaload, 1) := by decide +kernel
theorem dL_law_1058 : decode cL_law 1058 = .ok (.invokevirtual 142, 3) := by decide +kernel
theorem dL_law_1061 : decode cL_law 1061 = .ok (.aload_n 2, 1) := by decide +kernel
theorem dL_law_1062 : decode cL_law 1062 = .ok (.aload_n 0, 1) := by decide +kernel
theorem dL_law_1063 : decode cL_law 1063 = .ok (.iload_n 3, 1) := by decide +kernel
theorem dL_law_1064 : decode cL_law 1064 = .ok (.iconst 1, 1) := by decide +kernel
theorem dL_law_1065 : decode cL_law 1065 = .ok (.iadd, 1) := by decide +kernel
theorem dL_law_1066 : decode cL_law 1066 = .ok (.iaload, 1) := by decide +kernel
theorem dL_law_1067 : decode cL_law 1067 = .ok (.invokevirtual 145, 3) := by decide +kernel
theorem dL_law_1070 : decode cL_law 1070 = .ok (.if_icmp .eq 153, 3) := by decide +kernel
theorem dL_law_1073 : decode cL_law 1073 = .ok (.iconst 0, 1) := by decide +kernel
theorem dL_law_1074 : decode cL_law 1074 = .ok (.ireturn, 1) := by decide +kernel
theorem dL_law_1075 : decode cL_law 1075 = .ok (.aload_n 1, 1) := by decide +kernel
theorem dL_law_1076 : decode cL_law 1076 = .ok (.aload_n 0, 1) := by decide +kernel
theorem dL_law_1077 : decode cL_law 1077 = .ok (.iload_n 3, 1) := by decide +kernel
theorem dL_law_1078 : decode cL_law 1078 = .ok (.iconst 1, 1) := by decide +kernel
theorem dL_law_1079 : decode cL_law 1079 = .ok (.iadd, 1) := by decide +kernel
theorem dL_law_1080 : decode cL_law 1080 = .ok (.iaload, 1) := by decide +kernel
theorem dL_law_1081 : decode cL_law 1081 = .ok (.invokevirtual 146, 3) := by decide +kernel
theorem dL_law_1084 : decode cL_law 1084 = .ok (.aload_n 2, 1) := by decide +kernel
theorem dL_law_1085 : decode cL_law 1085 = .ok (.aload_n 0, 1) := by decide +kernel
theorem dL_law_1086 : decode cL_law 1086 = .ok (.iload_n 3, 1) := by decide +kernel
theorem dL_law_1087 : decode cL_law 1087 = .ok (.iconst 1, 1) := by decide +kernel
theorem dL_law_1088 : decode cL_law 1088 = .ok (.iadd, 1) := by decide +kernel
theorem dL_law_1089 : decode cL_law 1089 = .ok (.iaload, 1) := by decide +kernel
theorem dL_law_1090 : decode cL_law 1090 = .ok (.invokevirtual 149, 3) := by decide +kernel
theorem dL_law_1093 : decode cL_law 1093 = .ok (.if_icmp .eq 130, 3) := by decide +kernel
theorem dL_law_1096 : decode cL_law 1096 = .ok (.iconst 0, 1) := by decide +kernel
theorem dL_law_1097 : decode cL_law 1097 = .ok (.ireturn, 1) := by decide +kernel
theorem dL_law_1098 : decode cL_law 1098 = .ok (.aload_n 1, 1) := by decide +kernel
theorem dL_law_1099 : decode cL_law 1099 = .ok (.aload_n 0, 1) := by decide +kernel
theorem dL_law_1100 : decode cL_law 1100 = .ok (.iload_n 3, 1) := by decide +kernel
theorem dL_law_1101 : decode cL_law 1101 = .ok (.iconst 1, 1) := by decide +kernel
theorem dL_law_1102 : decode cL_law 1102 = .ok (.iadd, 1) := by decide +kernel
theorem dL_law_1103 : decode cL_law 1103 = .ok (.iaload, 1) := by decide +kernel
theorem dL_law_1104 : decode cL_law 1104 = .ok (.invokevirtual 150, 3) := by decide +kernel
theorem dL_law_1107 : decode cL_law 1107 = .ok (.aload_n 2, 1) := by decide +kernel
theorem dL_law_1108 : decode cL_law 1108 = .ok (.aload_n 0, 1) := by decide +kernel
theorem dL_law_1109 : decode cL_law 1109 = .ok (.iload_n 3, 1) := by decide +kernel
theorem dL_law_1110 : decode cL_law 1110 = .ok (.iconst 1, 1) := by decide +kernel
theorem dL_law_1111 : decode cL_law 1111 = .ok (.iadd, 1) := by decide +kernel
theorem dL_law_1112 : decode cL_law 1112 = .ok (.iaload, 1) := by decide +kernel
theorem dL_law_1113 : decode cL_law 1113 = .ok (.invokevirtual 153, 3) := by decide +kernel
theorem dL_law_1116 : decode cL_law 1116 = .ok (.if_icmp .eq 107, 3) := by decide +kernel
theorem dL_law_1119 : decode cL_law 1119 = .ok (.iconst 0, 1) := by decide +kernel
theorem dL_law_1120 : decode cL_law 1120 = .ok (.ireturn, 1) := by decide +kernel
theorem dL_law_1121 : decode cL_law 1121 = .ok (.aload_n 1, 1) := by decide +kernel
theorem dL_law_1122 : decode cL_law 1122 = .ok (.aload_n 0, 1) := by decide +kernel
theorem dL_law_1123 : decode cL_law 1123 = .ok (.iload_n 3, 1) := by decide +kernel
theorem dL_law_1124 : decode cL_law 1124 = .ok (.iconst 1, 1) := by decide +kernel
theorem dL_law_1125 : decode cL_law 1125 = .ok (.iadd, 1) := by decide +kernel
theorem dL_law_1126 : decode cL_law 1126 = .ok (.iaload, 1) := by decide +kernel
theorem dL_law_1127 : decode cL_law 1127 = .ok (.aload_n 0, 1) := by decide +kernel
theorem dL_law_1128 : decode cL_law 1128 = .ok (.iload_n 3, 1) := by decide +kernel
theorem dL_law_1129 : decode cL_law 1129 = .ok (.iconst 2, 1) := by decide +kernel
theorem dL_law_1130 : decode cL_law 1130 = .ok (.iadd, 1) := by decide +kernel
theorem dL_law_1131 : decode cL_law 1131 = .ok (.iaload, 1) := by decide +kernel
theorem dL_law_1132 : decode cL_law 1132 = .ok (.i2l, 1) := by decide +kernel
theorem dL_law_1133 : decode cL_law 1133 = .ok (.bipush 32, 2) := by decide +kernel
theorem dL_law_1135 : decode cL_law 1135 = .ok (.lshl, 1) := by decide +kernel
theorem dL_law_1136 : decode cL_law 1136 = .ok (.aload_n 0, 1) := by decide +kernel
theorem dL_law_1137 : decode cL_law 1137 = .ok (.iload_n 3, 1) := by decide +kernel
theorem dL_law_1138 : decode cL_law 1138 = .ok (.iconst 3, 1) := by decide +kernel
theorem dL_law_1139 : decode cL_law 1139 = .ok (.iadd, 1) := by decide +kernel
theorem dL_law_1140 : decode cL_law 1140 = .ok (.iaload, 1) := by decide +kernel
theorem dL_law_1141 : decode cL_law 1141 = .ok (.i2l, 1) := by decide +kernel
theorem dL_law_1142 : decode cL_law 1142 = .ok (.ldc2_w 28, 3) := by decide +kernel
theorem dL_law_1145 : decode cL_law 1145 = .ok (.land, 1) := by decide +kernel
theorem dL_law_1146 : decode cL_law 1146 = .ok (.lor, 1) := by decide +kernel
theorem dL_law_1147 : decode cL_law 1147 = .ok (.invokevirtual 154, 3) := by decide +kernel
theorem dL_law_1150 : decode cL_law 1150 = .ok (.aload_n 2, 1) := by decide +kernel
theorem dL_law_1151 : decode cL_law 1151 = .ok (.aload_n 0, 1) := by decide +kernel
theorem dL_law_1152 : decode cL_law 1152 = .ok (.iload_n 3, 1) := by decide +kernel
theorem dL_law_1153 : decode cL_law 1153 = .ok (.iconst 1, 1) := by decide +kernel
theorem dL_law_1154 : decode cL_law 1154 = .ok (.iadd, 1) := by decide +kernel
theorem dL_law_1155 : decode cL_law 1155 = .ok (.iaload, 1) := by decide +kernel
theorem dL_law_1156 : decode cL_law 1156 = .ok (.aload_n 0, 1) := by decide +kernel
theorem dL_law_1157 : decode cL_law 1157 = .ok (.iload_n 3, 1) := by decide +kernel
theorem dL_law_1158 : decode cL_law 1158 = .ok (.iconst 2, 1) := by decide +kernel
theorem dL_law_1159 : decode cL_law 1159 = .ok (.iadd, 1) := by decide +kernel
theorem dL_law_1160 : decode cL_law 1160 = .ok (.iaload, 1) := by decide +kernel
theorem dL_law_1161 : decode cL_law 1161 = .ok (.i2l, 1) := by decide +kernel
theorem dL_law_1162 : decode cL_law 1162 = .ok (.bipush 32, 2) := by decide +kernel
theorem dL_law_1164 : decode cL_law 1164 = .ok (.lshl, 1) := by decide +kernel
theorem dL_law_1165 : decode cL_law 1165 = .ok (.aload_n 0, 1) := by decide +kernel
theorem dL_law_1166 : decode cL_law 1166 = .ok (.iload_n 3, 1) := by decide +kernel
theorem dL_law_1167 : decode cL_law 1167 = .ok (.iconst 3, 1) := by decide +kernel
theorem dL_law_1168 : decode cL_law 1168 = .ok (.iadd, 1) := by decide +kernel
theorem dL_law_1169 : decode cL_law 1169 = .ok (.iaload, 1) := by decide +kernel
theorem dL_law_1170 : decode cL_law 1170 = .ok (.i2l, 1) := by decide +kernel
theorem dL_law_1171 : decode cL_law 1171 = .ok (.ldc2_w 28, 3) := by decide +kernel
theorem dL_law_1174 : decode cL_law 1174 = .ok (.land, 1) := by decide +kernel
theorem dL_law_1175 : decode cL_law 1175 = .ok (.lor, 1) := by decide +kernel
theorem dL_law_1176 : decode cL_law 1176 = .ok (.invokevirtual 158, 3) := by decide +kernel
theorem dL_law_1179 : decode cL_law 1179 = .ok (.if_icmp .eq 44, 3) := by decide +kernel
theorem dL_law_1182 : decode cL_law 1182 = .ok (.iconst 0, 1) := by decide +kernel
theorem dL_law_1183 : decode cL_law 1183 = .ok (.ireturn, 1) := by decide +kernel
theorem dL_law_1184 : decode cL_law 1184 = .ok (.aload_n 1, 1) := by decide +kernel
theorem dL_law_1185 : decode cL_law 1185 = .ok (.invokevirtual 159, 3) := by decide +kernel
theorem dL_law_1188 : decode cL_law 1188 = .ok (.aload_n 2, 1) := by decide +kernel
theorem dL_law_1189 : decode cL_law 1189 = .ok (.invokevirtual 162, 3) := by decide +kernel
theorem dL_law_1192 : decode cL_law 1192 = .ok (.if_icmp .eq 31, 3) := by decide +kernel
theorem dL_law_1195 : decode cL_law 1195 = .ok (.iconst 0, 1) := by decide +kernel
theorem dL_law_1196 : decode cL_law 1196 = .ok (.ireturn, 1) := by decide +kernel
theorem dL_law_1197 : decode cL_law 1197 = .ok (.aload_n 1, 1) := by decide +kernel
theorem dL_law_1198 : decode cL_law 1198 = .ok (.invokevirtual 163, 3) := by decide +kernel
theorem dL_law_1201 : decode cL_law 1201 = .ok (.aload_n 2, 1) := by decide +kernel
theorem dL_law_1202 : decode cL_law 1202 = .ok (.invokevirtual 166, 3) := by decide +kernel
theorem dL_law_1205 : decode cL_law 1205 = .ok (.if_icmp .eq 18, 3) := by decide +kernel
theorem dL_law_1208 : decode cL_law 1208 = .ok (.iconst 0, 1) := by decide +kernel
theorem dL_law_1209 : decode cL_law 1209 = .ok (.ireturn, 1) := by decide +kernel
theorem dL_law_1210 : decode cL_law 1210 = .ok (.aload_n 1, 1) := by decide +kernel
theorem dL_law_1211 : decode cL_law 1211 = .ok (.invokevirtual 167, 3) := by decide +kernel
theorem dL_law_1214 : decode cL_law 1214 = .ok (.aload_n 2, 1) := by decide +kernel
theorem dL_law_1215 : decode cL_law 1215 = .ok (.invokevirtual 170, 3) := by decide +kernel
theorem dL_law_1218 : decode cL_law 1218 = .ok (.if_icmp .eq 5, 3) := by decide +kernel
theorem dL_law_1221 : decode cL_law 1221 = .ok (.iconst 0, 1) := by decide +kernel
theorem dL_law_1222 : decode cL_law 1222 = .ok (.ireturn, 1) := by decide +kernel
theorem dL_law_1223 : decode cL_law 1223 = .ok (.iinc 3 5, 3) := by decide +kernel
theorem dL_law_1226 : decode cL_law 1226 = .ok (.goto (-1208), 3) := by decide +kernel
theorem dL_law_1229 : decode cL_law 1229 = .ok (.iconst 1, 1) := by decide +kernel
theorem dL_law_1230 : decode cL_law 1230 = .ok (.ireturn, 1) := by decide +kernel
end
section
/-! the abstract machine's words: values, cells, heaps, and the checks that a decompiled method makes -/
abbrev AV : Type := (Int ⊕ Int) ⊕ (Nat ⊕ Unit)
abbrev vi (z : Int) : AV := .inl (.inl z)
abbrev vl (z : Int) : AV := .inl (.inr z)
abbrev vr (q : Nat) : AV := .inr (.inl q)
abbrev vu : AV := .inr (.inr ())
abbrev AC : Type := (Nat × Nat × (Nat → Int)) ⊕ ((Nat × Nat × (Nat → Nat)) ⊕ (Nat × List AV))
abbrev arr (k n : Nat) (f : Nat → Int) : AC := .inl (k, n, f)
abbrev rar (k n : Nat) (f : Nat → Nat) : AC := .inr (.inl (k, n, f))
abbrev obj (c : Nat) (fs : List AV) : AC := .inr (.inr (c, fs))
abbrev Hp : Type := Nat × (Nat → Option AC)
def hget (h : Hp) (q : Nat) : Option AC := h.2 q
def hput (h : Hp) (q : Nat) (c : AC) : Hp := (h.1, fun k => if k = q then some c else h.2 k)
def hadd (h : Hp) (c : AC) : Hp := (h.1 + 1, fun k => if k = h.1 + 1 then some c else h.2 k)
def ups {α : Type} (f : Nat → α) (i : Nat) (v : α) : Nat → α := fun j => if j = i then v else f j
def R32 (x : Int) : Prop := -2147483648 ≤ x ∧ x ≤ 2147483647
def R64 (x : Int) : Prop := -9223372036854775808 ≤ x ∧ x ≤ 9223372036854775807
def c32 (x : Int) : Option Unit := if -2147483648 ≤ x ∧ x ≤ 2147483647 then some () else none
def c64 (x : Int) : Option Unit := if -9223372036854775808 ≤ x ∧ x ≤ 9223372036854775807 then some () else none
def cnz (x : Int) : Option Unit := if x = 0 then none else some ()
def crf (h : Hp) (q : Nat) : Option Unit := if q ≤ h.1 ∨ 1000000 ≤ q then some () else none
def getI (h : Hp) (ci q k : Nat) : Option Int := match h.2 q with
  | some (.inr (.inr (c, fs))) => if c = ci then (match fs[k]? with | some (.inl (.inl z)) => some z | _ => none) else none
  | _ => none
def getL (h : Hp) (ci q k : Nat) : Option Int := match h.2 q with
  | some (.inr (.inr (c, fs))) => if c = ci then (match fs[k]? with | some (.inl (.inr z)) => some z | _ => none) else none
  | _ => none
def getR (h : Hp) (ci q k : Nat) : Option Nat := match h.2 q with
  | some (.inr (.inr (c, fs))) => if c = ci then (match fs[k]? with | some (.inr (.inl z)) => some z | _ => none) else none
  | _ => none
def putV (h : Hp) (ci q k : Nat) (v : AV) : Option Hp := match h.2 q with
  | some (.inr (.inr (c, fs))) => if c = ci ∧ k < fs.length then some (hput h q (obj c (fs.set k v))) else none
  | _ => none
def ald (h : Hp) (kd q : Nat) (i : Int) : Option Int := match h.2 q with
  | some (.inl (k, n, f)) => if k = kd ∧ 0 ≤ i ∧ i < n then some (f i.toNat) else none
  | _ => none
def ast (h : Hp) (kd q : Nat) (i v : Int) : Option Hp := match h.2 q with
  | some (.inl (k, n, f)) => if k = kd ∧ 0 ≤ i ∧ i < n then some (hput h q (arr k n (ups f i.toNat v))) else none
  | _ => none
def aln (h : Hp) (kd q : Nat) : Option Int := match h.2 q with
  | some (.inl (k, n, _)) => if k = kd then some (n : Int) else none
  | _ => none
def rld (h : Hp) (ci q : Nat) (i : Int) : Option Nat := match h.2 q with
  | some (.inr (.inl (c, n, f))) => if c = ci ∧ 0 ≤ i ∧ i < n then some (f i.toNat) else none
  | _ => none
def rst (h : Hp) (ci q : Nat) (i : Int) (v : Nat) : Option Hp := match h.2 q, h.2 v with
  | some (.inr (.inl (c, n, f))), some (.inr (.inr (c2, _))) => if c = ci ∧ c2 = ci ∧ 0 ≤ i ∧ i < n then some (hput h q (rar c n (ups f i.toNat v))) else none
  | _, _ => none
/-- System.arraycopy of int rows -/
def cpyI (h : Hp) (q1 : Nat) (i1 : Int) (q2 : Nat) (i2 n : Int) : Option Hp := match h.2 q1, h.2 q2 with
  | some (.inl (k1, n1, f)), some (.inl (k2, n2, g)) => if k1 = 0 ∧ k2 = 0 ∧ 0 ≤ i1 ∧ 0 ≤ i2 ∧ 0 ≤ n ∧ i1 + n ≤ n1 ∧ i2 + n ≤ n2 ∧ n ≤ 2147483647 then some (hput h q2 (arr 0 n2 (fun k => if i2.toNat ≤ k ∧ k < i2.toNat + n.toNat then f (i1.toNat + (k - i2.toNat)) else g k))) else none
  | _, _ => none
/-- the bench's own static row: how many orders of 0 .. 7 things -/
def ordN (j : Nat) : Int := match j with | 0 => 1 | 1 => 1 | 2 => 2 | 3 => 6 | 4 => 24 | 5 => 120 | 6 => 720 | _ => 5040
def ldO (i : Int) : Option Int := if 0 ≤ i ∧ i < 8 then some (ordN i.toNat) else none
def ldS (L : Nat) (xs : Nat → Int32) (i : Int) : Option Int := if 0 ≤ i ∧ i < L then some (xs i.toNat).toInt else none
-- numbers: what the machine's own operations are on whole numbers
def bAnd (x y : Int) : Int := (Int32.ofInt x &&& Int32.ofInt y).toInt
def bOr (x y : Int) : Int := (Int32.ofInt x ||| Int32.ofInt y).toInt
def bXor (x y : Int) : Int := (Int32.ofInt x ^^^ Int32.ofInt y).toInt
def bShl (x y : Int) : Int := (Int32.ofInt x <<< (Int32.ofInt y &&& 31)).toInt
def bShr (x y : Int) : Int := (Int32.ofInt x >>> (Int32.ofInt y &&& 31)).toInt
def bUsh (x y : Int) : Int := ((Int32.ofInt x).toUInt32 >>> ((Int32.ofInt y).toUInt32 &&& Int32.toUInt32 31)).toInt32.toInt
def bDiv (x y : Int) : Int := (Int32.ofInt x / Int32.ofInt y).toInt
def bRem (x y : Int) : Int := (Int32.ofInt x - Int32.ofInt x / Int32.ofInt y * Int32.ofInt y).toInt
def w32 (x : Int) : Int := (Int32.ofInt x).toInt
def w8 (x : Int) : Int := (Int32.ofInt x).toInt8.toInt32.toInt
def w16 (x : Int) : Int := (Int32.ofInt x).toInt16.toInt32.toInt
def lAnd (x y : Int) : Int := (Int64.ofInt x &&& Int64.ofInt y).toInt
def lOr (x y : Int) : Int := (Int64.ofInt x ||| Int64.ofInt y).toInt
def lShl (x y : Int) : Int := (Int64.ofInt x <<< ((Int32.ofInt y).toInt64 &&& 63)).toInt
def lShr (x y : Int) : Int := (Int64.ofInt x >>> ((Int32.ofInt y).toInt64 &&& 63)).toInt
def lDiv (x y : Int) : Int := (Int64.ofInt x / Int64.ofInt y).toInt
def l2w (x : Int) : Int := (Int64.ofInt x).toInt32.toInt
def lCmp (x y : Int) : Int := if x < y then -1 else if x = y then 0 else 1
-- what is in range stands for itself
theorem i32_to {x : Int} (h : R32 x) : (Int32.ofInt x).toInt = x := Int32.toInt_ofInt_of_le (by have := h.1; omega) (by have := h.2; omega)
theorem i64_to {x : Int} (h : R64 x) : (Int64.ofInt x).toInt = x := Int64.toInt_ofInt_of_le (by have := h.1; omega) (by have := h.2; omega)
theorem i32_lt {x y : Int} (hx : R32 x) (hy : R32 y) : Int32.ofInt x < Int32.ofInt y ↔ x < y := by rw [Int32.lt_iff_toInt_lt, i32_to hx, i32_to hy]
theorem i32_le {x y : Int} (hx : R32 x) (hy : R32 y) : Int32.ofInt x ≤ Int32.ofInt y ↔ x ≤ y := by rw [Int32.le_iff_toInt_le, i32_to hx, i32_to hy]
theorem i32_eq {x y : Int} (hx : R32 x) (hy : R32 y) : Int32.ofInt x = Int32.ofInt y ↔ x = y := by rw [← Int32.toInt_inj, i32_to hx, i32_to hy]
theorem i64_lt {x y : Int} (hx : R64 x) (hy : R64 y) : Int64.ofInt x < Int64.ofInt y ↔ x < y := by rw [Int64.lt_iff_toInt_lt, i64_to hx, i64_to hy]
theorem i64_eq {x y : Int} (hx : R64 x) (hy : R64 y) : Int64.ofInt x = Int64.ofInt y ↔ x = y := by rw [← Int64.toInt_inj, i64_to hx, i64_to hy]
theorem R32_to (x : Int32) : R32 x.toInt := ⟨by have := x.le_toInt; omega, by have := x.toInt_lt; omega⟩
theorem R64_to (x : Int64) : R64 x.toInt := ⟨by have := x.le_toInt; omega, by have := x.toInt_lt; omega⟩
theorem R32_l {x : Int} (h : R32 x) : R64 x := ⟨by have := h.1; omega, by have := h.2; omega⟩
theorem c32_R {x : Int} (h : c32 x = some ()) : R32 x := by unfold c32 at h; split at h <;> simp_all [R32]
theorem c64_R {x : Int} (h : c64 x = some ()) : R64 x := by unfold c64 at h; split at h <;> simp_all [R64]
theorem cnz_R {x : Int} (h : cnz x = some ()) : x ≠ 0 := by unfold cnz at h; split at h <;> simp_all
theorem crf_R {h : Hp} {q : Nat} (e : crf h q = some ()) : q ≤ h.1 ∨ 1000000 ≤ q := by unfold crf at e; split at e <;> simp_all
theorem c32_ok {x : Int} (h : R32 x) : c32 x = some () := if_pos h
theorem c64_ok {x : Int} (h : R64 x) : c64 x = some () := if_pos h
theorem i32_nz {x : Int} (hx : R32 x) : Int32.ofInt x = 0 ↔ x = 0 := by
  have := i32_eq hx (y := 0) ⟨by decide, by decide⟩
  rwa [show Int32.ofInt 0 = 0 from rfl] at this
theorem i32_toL {x : Int} (h : R32 x) : (Int32.ofInt x).toInt64 = Int64.ofInt x := by
  rw [← Int64.toInt_inj, i64_to (R32_l h), Int32.toInt_toInt64, i32_to h]
theorem i32_clamp {x : Int} (h : R32 x) : (Int32.ofInt x).toNatClampNeg = x.toNat := by
  show (Int32.ofInt x).toInt.toNat = _
  rw [i32_to h]
-- inversions of the checks
theorem getI_inv {h : Hp} {ci q k : Nat} {z : Int} (e : getI h ci q k = some z) : ∃ fs, h.2 q = some (obj ci fs) ∧ fs[k]? = some (vi z) := by
  unfold getI at e
  split at e
  · next c fs he =>
    split at e
    · next hc => subst hc; split at e <;> simp_all
    · cases e
  · cases e
theorem getL_inv {h : Hp} {ci q k : Nat} {z : Int} (e : getL h ci q k = some z) : ∃ fs, h.2 q = some (obj ci fs) ∧ fs[k]? = some (vl z) := by
  unfold getL at e
  split at e
  · next c fs he =>
    split at e
    · next hc => subst hc; split at e <;> simp_all
    · cases e
  · cases e
theorem getR_inv {h : Hp} {ci q k : Nat} {z : Nat} (e : getR h ci q k = some z) : ∃ fs, h.2 q = some (obj ci fs) ∧ fs[k]? = some (vr z) := by
  unfold getR at e
  split at e
  · next c fs he =>
    split at e
    · next hc => subst hc; split at e <;> simp_all
    · cases e
  · cases e
theorem putV_inv {h h' : Hp} {ci q k : Nat} {v : AV} (e : putV h ci q k v = some h') : ∃ fs, h.2 q = some (obj ci fs) ∧ k < fs.length ∧ h' = hput h q (obj ci (fs.set k v)) := by
  unfold putV at e
  split at e
  · next c fs he =>
    split at e
    · next hc => obtain ⟨hc1, hc2⟩ := hc; subst hc1; cases e; exact ⟨fs, he, hc2, rfl⟩
    · cases e
  · cases e
theorem ald_inv {h : Hp} {kd q : Nat} {i z : Int} (e : ald h kd q i = some z) : ∃ n f, h.2 q = some (arr kd n f) ∧ 0 ≤ i ∧ i < n ∧ z = f i.toNat := by
  unfold ald at e
  split at e
  · next c n f he =>
    split at e
    · next hc => obtain ⟨hc1, hc2⟩ := hc; subst hc1; cases e; exact ⟨n, f, he, hc2.1, hc2.2, rfl⟩
    · cases e
  · cases e
theorem ast_inv {h h' : Hp} {kd q : Nat} {i v : Int} (e : ast h kd q i v = some h') : ∃ n f, h.2 q = some (arr kd n f) ∧ 0 ≤ i ∧ i < n ∧ h' = hput h q (arr kd n (ups f i.toNat v)) := by
  unfold ast at e
  split at e
  · next c n f he =>
    split at e
    · next hc => obtain ⟨hc1, hc2⟩ := hc; subst hc1; cases e; exact ⟨n, f, he, hc2.1, hc2.2, rfl⟩
    · cases e
  · cases e
theorem aln_inv {h : Hp} {kd q : Nat} {z : Int} (e : aln h kd q = some z) : ∃ n f, h.2 q = some (arr kd n f) ∧ z = (n : Int) := by
  unfold aln at e
  split at e
  · next c n f he =>
    split at e
    · next hc => subst hc; cases e; exact ⟨n, f, he, rfl⟩
    · cases e
  · cases e
theorem rld_inv {h : Hp} {kd q : Nat} {i : Int} {z : Nat} (e : rld h kd q i = some z) : ∃ n f, h.2 q = some (rar kd n f) ∧ 0 ≤ i ∧ i < n ∧ z = f i.toNat := by
  unfold rld at e
  split at e
  · next c n f he =>
    split at e
    · next hc => obtain ⟨hc1, hc2⟩ := hc; subst hc1; cases e; exact ⟨n, f, he, hc2.1, hc2.2, rfl⟩
    · cases e
  · cases e
theorem rst_inv {h h' : Hp} {kd q v : Nat} {i : Int} (e : rst h kd q i v = some h') : ∃ n f fs, h.2 q = some (rar kd n f) ∧ h.2 v = some (obj kd fs) ∧ 0 ≤ i ∧ i < n ∧ h' = hput h q (rar kd n (ups f i.toNat v)) := by
  unfold rst at e
  split at e
  · next c n f c2 fs he he2 =>
    split at e
    · next hc => obtain ⟨hc1, hc2, hc3, hc4⟩ := hc; subst hc1; cases hc2; cases e; exact ⟨n, f, fs, he, he2, hc3, hc4, rfl⟩
    · cases e
  · cases e
theorem cpyI_inv {h h' : Hp} {q1 q2 : Nat} {i1 i2 n : Int} (e : cpyI h q1 i1 q2 i2 n = some h') : ∃ n1 f n2 g, h.2 q1 = some (arr 0 n1 f) ∧ h.2 q2 = some (arr 0 n2 g) ∧ 0 ≤ i1 ∧ 0 ≤ i2 ∧ 0 ≤ n ∧ i1 + n ≤ n1 ∧ i2 + n ≤ n2 ∧ n ≤ 2147483647 ∧ h' = hput h q2 (arr 0 n2 (fun k => if i2.toNat ≤ k ∧ k < i2.toNat + n.toNat then f (i1.toNat + (k - i2.toNat)) else g k)) := by
  unfold cpyI at e
  split at e
  · next c n1 f c2 n2 g he he2 =>
    split at e
    · next hc => obtain ⟨hc1, hc2, hc3⟩ := hc; subst hc1; subst hc2; cases e; exact ⟨n1, f, n2, g, he, he2, hc3.1, hc3.2.1, hc3.2.2.1, hc3.2.2.2.1, hc3.2.2.2.2.1, hc3.2.2.2.2.2, rfl⟩
    · cases e
  · cases e
theorem bs {α β : Type} {x : Option α} {f : α → Option β} {b : β} (h : x.bind f = some b) : ∃ a, x = some a ∧ f a = some b := by
  cases x with
  | none => cases h
  | some a => exact ⟨a, rfl, h⟩
end
section
/-! the judgement J: from an abstract frame and heap the machine comes to a return with Q -/
def avk (n : Nat) : AV → Prop
  | .inl (.inl z) => R32 z
  | .inl (.inr z) => R64 z
  | .inr (.inl q) => q ≤ n ∨ 1000000 ≤ q
  | .inr (.inr _) => True
def cac (n : Nat) : AC → Prop
  | .inl (kd, m, f) => m < 2147483648 ∧ ∀ j, if kd = 1 then R64 (f j) else R32 (f j)
  | .inr (.inl (_, m, f)) => m < 2147483648 ∧ ∀ j, f j ≤ n ∨ 1000000 ≤ f j
  | .inr (.inr (_, fs)) => ∀ (k : Nat) (v : AV), fs[k]? = some v → avk n v
def cv (ad : Nat → Nat) : AV → Value
  | .inl (.inl z) => .int (Int32.ofInt z)
  | .inl (.inr z) => .long (Int64.ofInt z)
  | .inr (.inl q) => if q = 0 then .null else .ref (ad q)
  | .inr (.inr _) => .null
def ce (cA ad : Nat → Nat) (k : Nat) : AC → va_E
  | .inl (kd, n, f) => .inl (cA k, n, if kd = 1 then .inr (.inl fun j => Int64.ofInt (f j)) else .inl fun j => Int32.ofInt (f j))
  | .inr (.inl (_, n, f)) => .inl (cA k, n, .inr (.inr (.inr (.inr fun j => if f j = 0 then none else some (ad (f j))))))
  | .inr (.inr (ci, fs)) => .inr (ci, fs.map (cv ad))
def wsl (cA ad : Nat → Nat) (h : Hp) : va_W := (List.range h.1).map fun k => (ad (k + 1), ce cA ad (k + 1) ((h.2 (k + 1)).getD (obj 0 [])))
def tyk (kd : Nat) : FieldType := if kd = 0 then .int else if kd = 1 then .long else .boolean
def clN (ci : Nat) : String := match vwCl[ci]? with | some r => r.1 | none => ""
/-- an array's own class, as the tables have it -/
def aok (s : State) (cA : ClassId) : AC → Prop
  | .inl (kd, _, _) => kd ≤ 2 ∧ ArrOfT s cA (tyk kd) ∧ va_RA s cA (tyk kd)
  | .inr (.inl (ci, _, _)) => ArrOfT s cA (.object (clN ci)) ∧ va_RA s cA (.object (clN ci))
  | .inr (.inr _) => True
def WFh (h : Hp) : Prop := (∀ (k : Nat) (c : AC), h.2 k = some c → 1 ≤ k ∧ k ≤ h.1 ∧ cac h.1 c) ∧ ∀ k : Nat, 1 ≤ k → k ≤ h.1 → ∃ c, h.2 k = some c
/-- the law's script and the bench's static row have numbers of their own -/
def sp (b t k : Nat) : Nat := if k = 1000000 then b else if k = 1000001 then t else 0
def WO (D : va_G) (cA ad : Nat → Nat) (base b t : Nat) (h : Hp) (s : State) (H : Heap) : Prop :=
  va_K D vwCl [] s ∧ (∀ (k : Nat) (c : AC), h.2 k = some c → aok s (cA k) c) ∧ va_P D vwCl (wsl cA ad h) H ∧ va_D (fun q => base ≤ q) (wsl cA ad h) ∧ WFh h ∧ ∀ k : Nat, h.1 < k → ad k = sp b t k
def gtb : List Cond := lw_tbl.filter goodWord
def isNest : Cond → Bool
  | .methodLinkNest _ _ _ _ => true
  | _ => false
def nwl : List Cond := lw_tbl.filter isNest
def NW (s : State) : Prop := (∀ w ∈ nwl, va_Nw w s) ∧ va_AO RX6 s ∧ va_AO RX7 s
def OL (L : Nat) (xs : Nat → Int32) (b t base : Nat) (s : State) (H : Heap) : Prop :=
  va_X b L xs s H ∧ b < base ∧ base ≤ H.size ∧ va_Z RX2 "ORDERS" "[I" (.ref t) (fun q => base ≤ q) s H ∧ va_T .int t 8 (fun j => .int (Int32.ofInt (ordN j))) (fun q => base ≤ q) s H ∧ NW s
def CT (L : Nat) (xs : Nat → Int32) (own : String) (cc : ByteArray) (nL : Nat) (ini : Bool) (d rc rs : Nat) (h : Hp) (p : Program) (R : Room) (s : State) (m : MethodId) (args : Array Value) (meth : Method) (c : Code) (H : Heap) (locs : List Loc) (cells slots TC TS n0 n1 : Nat) (D : va_G) (cA ad ad0 : Nat → Nat) (base b t : Nat) : Prop :=
  (p.tables.exec = Jvm.exec ∧ c.code = cc ∧ c.maxLocals = nL ∧ s.vm.findClass own = some m.cls ∧ (∀ w ∈ gtb, w.before args s = true) ∧ (ini = true → meth.name = "<init>")) ∧
  (d ≤ R.frames ∧ 64 * d ≤ R.locals ∧ TC ≤ R.cells ∧ TS ≤ R.slots ∧ cells + rc ≤ TC ∧ slots + rs ≤ TS ∧ n0 ≤ h.1 ∧ h.1 + rc ≤ n1 ∧ n1 < 1000000 ∧ ∀ k : Nat, k ≤ n0 → ad k = ad0 k) ∧
  OL L xs b t base s s.heap ∧ WO D cA ad base b t h s H ∧ va_S (fun q => base ≤ q) s.heap H locs
def RetAt (cc : ByteArray) (pc : Nat) (r : AV) : Prop := (∃ z, r = vi z ∧ decode cc pc = .ok (.ireturn, 1)) ∨ (∃ z, r = vl z ∧ decode cc pc = .ok (.lreturn, 1)) ∨ (r = vu ∧ decode cc pc = .ok (.return_, 1))
def retst (r : AV) : List Value := match r with
  | .inl (.inl z) => [.int (Int32.ofInt z)]
  | .inl (.inr z) => [.long (Int64.ofInt z)]
  | _ => []
def RT (l : Launch) (cc : ByteArray) (Q : AV → Hp → Prop) (p : Program) (e : Env) (R : Room) (s : State) (m : MethodId) (args : Array Value) (below : List Frame) (meth : Method) (c : Code) (TC TS n0 n1 : Nat) (D : va_G) (ad0 : Nat → Nat) (base b t : Nat) (Z : State → Prop) : Prop :=
  ∀ (r : AV) (h' : Hp) (cA' ad' : Nat → Nat) (H' : Heap) (locs' : List Loc) (cells' slots' pc' : Nat) (ls' : Array Slot), Q r h' → avk 0 r → n0 ≤ h'.1 → h'.1 ≤ n1 → (∀ k : Nat, k ≤ n0 → ad' k = ad0 k) → WO D cA' ad' base b t h' s H' → va_S (fun q => base ≤ q) s.heap H' locs' → cells' ≤ TC → slots' ≤ TS → RetAt cc pc' r →
    W p l e R s m args below meth c H' locs' cells' slots' Z (F0 m pc' ls' (retst r))
def lvm (ad : Nat → Nat) (lv : List (Nat × AV)) : List (Nat × Value) := lv.map fun q => (q.1, cv ad q.2)
def J (L : Nat) (xs : Nat → Int32) (l : Launch) (own : String) (cc : ByteArray) (nL : Nat) (ini : Bool) (d : Nat) (Q : AV → Hp → Prop) (rc rs pc : Nat) (lv : List (Nat × AV)) (st : List AV) (h : Hp) : Prop :=
  ∀ (p : Program) (e : Env) (R : Room) (s : State) (m : MethodId) (args : Array Value) (below : List Frame) (meth : Method) (c : Code) (H : Heap) (locs : List Loc) (cells slots TC TS n0 n1 : Nat) (D : va_G) (cA ad ad0 : Nat → Nat) (base b t : Nat) (ls : Array Slot) (Z : State → Prop),
    CT L xs own cc nL ini d rc rs h p R s m args meth c H locs cells slots TC TS n0 n1 D cA ad ad0 base b t → lv_has ls nL (lvm ad lv) → RT l cc Q p e R s m args below meth c TC TS n0 n1 D ad0 base b t Z →
    W p l e R s m args below meth c H locs cells slots Z (F0 m pc ls (st.map (cv ad)))
-- the list of the world's cells
theorem wsl_len (cA ad : Nat → Nat) (h : Hp) : (wsl cA ad h).length = h.1 := by simp [wsl]
theorem wsl_get {cA ad : Nat → Nat} {h : Hp} (k : Nat) (hk : k < h.1) : (wsl cA ad h)[k]? = some (ad (k + 1), ce cA ad (k + 1) ((h.2 (k + 1)).getD (obj 0 []))) := by
  simp [wsl, List.getElem?_range, hk]
theorem wsl_at {cA ad : Nat → Nat} {h : Hp} {q : Nat} {c : AC} (hW : WFh h) (hq : h.2 q = some c) : (wsl cA ad h)[q - 1]? = some (ad q, ce cA ad q c) := by
  obtain ⟨h1, h2, -⟩ := hW.1 q c hq
  have e : q - 1 + 1 = q := by omega
  rw [wsl_get (q - 1) (by omega), e, hq]; rfl
theorem wsl_put {cA ad : Nat → Nat} {h : Hp} {q : Nat} {c : AC} (c' : AC) (hW : WFh h) (hq : h.2 q = some c) : (wsl cA ad h).set (q - 1) (ad q, ce cA ad q c') = wsl cA ad (hput h q c') := by
  obtain ⟨h1, h2, -⟩ := hW.1 q c hq
  apply List.ext_getElem?
  intro k
  by_cases hk : k < h.1
  · rw [wsl_get (h := hput h q c') k hk]
    by_cases he : q - 1 = k
    · subst he
      have e : q - 1 + 1 = q := by omega
      rw [List.getElem?_set_self (by rw [wsl_len]; exact hk), e]
      simp [hput]
    · rw [List.getElem?_set_ne he, wsl_get k hk]
      have : ¬ k + 1 = q := by omega
      simp [hput, this]
  · rw [List.getElem?_eq_none (by rw [List.length_set, wsl_len]; omega), List.getElem?_eq_none (by rw [wsl_len]; exact Nat.not_lt.mp hk)]
theorem WFh_put {h : Hp} {q : Nat} {c c' : AC} (hW : WFh h) (hq : h.2 q = some c) (hc : cac h.1 c') : WFh (hput h q c') := by
  obtain ⟨h1, h2, -⟩ := hW.1 q c hq
  refine ⟨fun k x hk => ?_, fun k a1 a2 => ?_⟩
  · by_cases he : k = q
    · subst he
      simp only [hput, if_pos rfl] at hk
      cases hk
      exact ⟨h1, h2, hc⟩
    · simp only [hput, if_neg he] at hk
      exact hW.1 k x hk
  · by_cases he : k = q
    · subst he; exact ⟨c', by simp [hput]⟩
    · obtain ⟨x, hx⟩ := hW.2 k a1 a2
      exact ⟨x, by simp [hput, he, hx]⟩
theorem aok_put {s : State} {cA : Nat → Nat} {h : Hp} {q : Nat} {c c' : AC} (hA : ∀ (k : Nat) (x : AC), h.2 k = some x → aok s (cA k) x) (hc : aok s (cA q) c') : ∀ (k : Nat) (x : AC), (hput h q c').2 k = some x → aok s (cA k) x := by
  intro k x hk
  by_cases he : k = q
  · subst he
    simp only [hput, if_pos rfl] at hk
    cases hk
    exact hc
  · simp only [hput, if_neg he] at hk
    exact hA k x hk
theorem WO_put {D : va_G} {cA ad : Nat → Nat} {base b t : Nat} {h : Hp} {s : State} {H H1 : Heap} {q : Nat} {c : AC} (c' : AC) (hO : WO D cA ad base b t h s H) (hq : h.2 q = some c) (hc : cac h.1 c') (ha : aok s (cA q) c')
    (hP : va_P D vwCl ((wsl cA ad h).set (q - 1) (ad q, ce cA ad q c')) H1) (hD : va_D (fun q => base ≤ q) ((wsl cA ad h).set (q - 1) (ad q, ce cA ad q c'))) : WO D cA ad base b t (hput h q c') s H1 := by
  obtain ⟨o1, o2, o3, o4, o5, o6⟩ := hO
  rw [wsl_put c' o5 hq] at hP hD
  exact ⟨o1, aok_put (c := c) o2 ha, hP, hD, WFh_put o5 hq hc, o6⟩
/-- a changed heap of the same size: the context goes on -/
theorem CT_put {L : Nat} {xs : Nat → Int32} {own : String} {cc : ByteArray} {nL : Nat} {ini : Bool} {d rc rs : Nat} {h : Hp} {p : Program} {R : Room} {s : State} {m : MethodId} {args : Array Value} {meth : Method} {c : Code} {H H1 : Heap} {locs locs1 : List Loc} {cells slots TC TS n0 n1 : Nat} {D : va_G} {cA ad ad0 : Nat → Nat} {base b t : Nat} {h' : Hp}
    (X : CT L xs own cc nL ini d rc rs h p R s m args meth c H locs cells slots TC TS n0 n1 D cA ad ad0 base b t) (hn : h'.1 = h.1) (hO : WO D cA ad base b t h' s H1) (hS : va_S (fun q => base ≤ q) s.heap H1 locs1) : CT L xs own cc nL ini d rc rs h' p R s m args meth c H1 locs1 cells slots TC TS n0 n1 D cA ad ad0 base b t := by
  obtain ⟨x1, x2, x3, -, -⟩ := X
  refine ⟨x1, ?_, x3, hO, hS⟩
  rw [hn]; exact x2
end
section
section
variable {L : Nat} {xs : Nat → Int32} {l : Launch} {own : String} {cc : ByteArray} {nL : Nat} {ini : Bool} {d : Nat} {Q : AV → Hp → Prop} {rc rs : Nat} {pc pc' : Nat} {lv lv' : List (Nat × AV)} {st : List AV} {h : Hp}
theorem lvm_at {ad : Nat → Nat} {ls : Array Slot} (hl : lv_has ls nL (lvm ad lv)) {n i : Nat} {v : AV} (he : lv[n]? = some (i, v)) : ls[i]? = some (.val (cv ad v)) :=
  lv_at hl n (by rw [lvm, List.getElem?_map, he]; rfl)
def catv : AV → Nat
  | .inl (.inr _) => 2
  | _ => 1
theorem cv_cat (ad : Nat → Nat) (v : AV) : (cv ad v).category = catv v := by
  match v with
  | .inl (.inl z) => rfl
  | .inl (.inr z) => rfl
  | .inr (.inl q) => unfold cv catv; dsimp only; split <;> rfl
  | .inr (.inr _) => rfl
def lpk (l : List (Nat × AV)) (ks : List Nat) : List (Nat × AV) := ks.filterMap (fun k => l[k]?)
def f1 (i : Nat) (lv : List (Nat × AV)) : List (Nat × AV) := lv.filter (fun q => !(q.1 == i) && !(q.1 + 1 == i && catv q.2 == 2))
def f2 (i : Nat) (lv : List (Nat × AV)) : List (Nat × AV) := lv.filter (fun q => !(q.1 == i) && (!(q.1 == i + 1) && !(q.1 + 1 == i && catv q.2 == 2)))
theorem lvm_f1 (ad : Nat → Nat) (i : Nat) (lv : List (Nat × AV)) : (lvm ad lv).filter (fun q => !(q.1 == i) && !(q.1 + 1 == i && q.2.category == 2)) = lvm ad (f1 i lv) := by
  unfold lvm f1
  rw [List.filter_map]
  congr 1
  apply List.filter_congr
  intro q _
  simp only [Function.comp, cv_cat]
theorem lvm_f2 (ad : Nat → Nat) (i : Nat) (lv : List (Nat × AV)) : (lvm ad lv).filter (fun q => !(q.1 == i) && (!(q.1 == i + 1) && !(q.1 + 1 == i && q.2.category == 2))) = lvm ad (f2 i lv) := by
  unfold lvm f2
  rw [List.filter_map]
  congr 1
  apply List.filter_congr
  intro q _
  simp only [Function.comp, cv_cat]
theorem lvm_pk {ad : Nat → Nat} {ls : Array Slot} {a : List (Nat × AV)} (hl : lv_has ls nL (lvm ad a)) (ks : List Nat) (he : lpk a ks = lv') : lv_has ls nL (lvm ad lv') := by
  subst he
  refine lv_sub hl ks ?_
  simp only [lv_pick, lvm, lpk, List.map_filterMap]
  congr 1
  funext k
  rw [List.getElem?_map]
theorem j_sub (ks : List Nat) (he : lpk lv ks = lv') (k : J L xs l own cc nL ini d Q rc rs pc lv' st h) : J L xs l own cc nL ini d Q rc rs pc lv st h := by
  intro p e R s m args below meth c H locs cells slots TC TS n0 n1 D cA ad ad0 base b t ls Z X hl hR
  exact k _ _ _ _ _ _ _ _ _ _ _ _ _ _ _ _ _ _ _ _ _ _ _ _ _ _ X (lvm_pk hl ks he) hR
theorem j_imp {Q' : AV → Hp → Prop} (hq : ∀ r h', Q' r h' → Q r h') (k : J L xs l own cc nL ini d Q' rc rs pc lv st h) : J L xs l own cc nL ini d Q rc rs pc lv st h := by
  intro p e R s m args below meth c H locs cells slots TC TS n0 n1 D cA ad ad0 base b t ls Z X hl hR
  exact k _ _ _ _ _ _ _ _ _ _ _ _ _ _ _ _ _ _ _ _ _ _ _ _ _ _ X hl (fun r h' cA' ad' H' locs' cells' slots' pc' ls' q => hR r h' cA' ad' H' locs' cells' slots' pc' ls' (hq r h' q))
theorem j_iconst {n : Int} (dg : decode cc pc = .ok (.iconst n, 1)) (hp : pc + 1 = pc') (k : J L xs l own cc nL ini d Q rc rs pc' lv (vi n :: st) h) : J L xs l own cc nL ini d Q rc rs pc lv (st) h := by
  subst hp
  intro p e R s m args below meth c H locs cells slots TC TS n0 n1 D cA ad ad0 base b t ls Z X hl hR
  refine lv_iconst (v := Int32.ofInt n) X.1.1 X.1.2.1 dg rfl ?_
  exact k _ _ _ _ _ _ _ _ _ _ _ _ _ _ _ _ _ _ _ _ _ _ _ _ _ _ X hl hR
theorem j_bipush {n : Int} (dg : decode cc pc = .ok (.bipush n, 2)) (hp : pc + 2 = pc') (hn : (Int8.ofInt n).toInt32 = Int32.ofInt n) (k : J L xs l own cc nL ini d Q rc rs pc' lv (vi n :: st) h) : J L xs l own cc nL ini d Q rc rs pc lv (st) h := by
  subst hp
  intro p e R s m args below meth c H locs cells slots TC TS n0 n1 D cA ad ad0 base b t ls Z X hl hR
  refine lv_bipush (v := Int32.ofInt n) X.1.1 X.1.2.1 dg hn ?_
  exact k _ _ _ _ _ _ _ _ _ _ _ _ _ _ _ _ _ _ _ _ _ _ _ _ _ _ X hl hR
theorem j_sipush {n : Int} (dg : decode cc pc = .ok (.sipush n, 3)) (hp : pc + 3 = pc') (hn : (Int16.ofInt n).toInt32 = Int32.ofInt n) (k : J L xs l own cc nL ini d Q rc rs pc' lv (vi n :: st) h) : J L xs l own cc nL ini d Q rc rs pc lv (st) h := by
  subst hp
  intro p e R s m args below meth c H locs cells slots TC TS n0 n1 D cA ad ad0 base b t ls Z X hl hR
  refine lv_sipush (v := Int32.ofInt n) X.1.1 X.1.2.1 dg hn ?_
  exact k _ _ _ _ _ _ _ _ _ _ _ _ _ _ _ _ _ _ _ _ _ _ _ _ _ _ X hl hR
theorem j_lconst {n : Fin 2} {z : Int} (dg : decode cc pc = .ok (.lconst n, 1)) (hp : pc + 1 = pc') (hn : Int64.ofNat (n : Nat) = Int64.ofInt z) (k : J L xs l own cc nL ini d Q rc rs pc' lv (vl z :: st) h) : J L xs l own cc nL ini d Q rc rs pc lv (st) h := by
  subst hp
  intro p e R s m args below meth c H locs cells slots TC TS n0 n1 D cA ad ad0 base b t ls Z X hl hR
  refine lv_lconst (v := Int64.ofInt z) X.1.1 X.1.2.1 dg hn ?_
  exact k _ _ _ _ _ _ _ _ _ _ _ _ _ _ _ _ _ _ _ _ _ _ _ _ _ _ X hl hR
theorem j_ldc {ix : Nat} {v : Int32} {z : Int} (dg : decode cc pc = .ok (.ldc ix, 2)) (hp : pc + 2 = pc') (hw : Cond.constant own ix v ∈ gtb) (hz : v = Int32.ofInt z) (k : J L xs l own cc nL ini d Q rc rs pc' lv (vi z :: st) h) : J L xs l own cc nL ini d Q rc rs pc lv (st) h := by
  subst hp
  intro p e R s m args below meth c H locs cells slots TC TS n0 n1 D cA ad ad0 base b t ls Z X hl hR
  refine lv_ldc (v := v) X.1.1 X.1.2.1 X.1.2.2.2.1 (X.1.2.2.2.2.1 _ hw) dg ?_
  rw [hz]
  exact k _ _ _ _ _ _ _ _ _ _ _ _ _ _ _ _ _ _ _ _ _ _ _ _ _ _ X hl hR
theorem j_ldcw {ix : Nat} {v : Int32} {z : Int} (dg : decode cc pc = .ok (.ldc_w ix, 3)) (hp : pc + 3 = pc') (hw : Cond.constant own ix v ∈ gtb) (hz : v = Int32.ofInt z) (k : J L xs l own cc nL ini d Q rc rs pc' lv (vi z :: st) h) : J L xs l own cc nL ini d Q rc rs pc lv (st) h := by
  subst hp
  intro p e R s m args below meth c H locs cells slots TC TS n0 n1 D cA ad ad0 base b t ls Z X hl hR
  refine lv_ldcw (v := v) X.1.1 X.1.2.1 X.1.2.2.2.1 (X.1.2.2.2.2.1 _ hw) dg ?_
  rw [hz]
  exact k _ _ _ _ _ _ _ _ _ _ _ _ _ _ _ _ _ _ _ _ _ _ _ _ _ _ X hl hR
theorem j_ldc2 {ix : Nat} {v : Int64} {z : Int} (dg : decode cc pc = .ok (.ldc2_w ix, 3)) (hp : pc + 3 = pc') (hw : Cond.constantLong own ix v ∈ gtb) (hz : v = Int64.ofInt z) (k : J L xs l own cc nL ini d Q rc rs pc' lv (vl z :: st) h) : J L xs l own cc nL ini d Q rc rs pc lv (st) h := by
  subst hp
  intro p e R s m args below meth c H locs cells slots TC TS n0 n1 D cA ad ad0 base b t ls Z X hl hR
  refine lv_ldc2 (v := v) X.1.1 X.1.2.1 X.1.2.2.2.1 (X.1.2.2.2.2.1 _ hw) dg ?_
  rw [hz]
  exact k _ _ _ _ _ _ _ _ _ _ _ _ _ _ _ _ _ _ _ _ _ _ _ _ _ _ X hl hR
theorem j_iload_n {k : Fin 4} {i : Nat} {z : Int} (dg : decode cc pc = .ok (.iload_n k, 1)) (hp : pc + 1 = pc') (hi : (k : Nat) = i) (n : Nat) (he : lv[n]? = some (i, vi z)) (k : J L xs l own cc nL ini d Q rc rs pc' lv (vi z :: st) h) : J L xs l own cc nL ini d Q rc rs pc lv (st) h := by
  subst hp
  intro p e R s m args below meth c H locs cells slots TC TS n0 n1 D cA ad ad0 base b t ls Z X hl hR
  refine lv_iload_n X.1.1 X.1.2.1 dg hi (lvm_at hl he) ?_
  exact k _ _ _ _ _ _ _ _ _ _ _ _ _ _ _ _ _ _ _ _ _ _ _ _ _ _ X hl hR
theorem j_iload {i : Nat} {z : Int} (dg : decode cc pc = .ok (.iload i, 2)) (hp : pc + 2 = pc') (n : Nat) (he : lv[n]? = some (i, vi z)) (k : J L xs l own cc nL ini d Q rc rs pc' lv (vi z :: st) h) : J L xs l own cc nL ini d Q rc rs pc lv (st) h := by
  subst hp
  intro p e R s m args below meth c H locs cells slots TC TS n0 n1 D cA ad ad0 base b t ls Z X hl hR
  refine lv_iload X.1.1 X.1.2.1 dg (lvm_at hl he) ?_
  exact k _ _ _ _ _ _ _ _ _ _ _ _ _ _ _ _ _ _ _ _ _ _ _ _ _ _ X hl hR
theorem j_lload_n {k : Fin 4} {i : Nat} {z : Int} (dg : decode cc pc = .ok (.lload_n k, 1)) (hp : pc + 1 = pc') (hi : (k : Nat) = i) (n : Nat) (he : lv[n]? = some (i, vl z)) (k : J L xs l own cc nL ini d Q rc rs pc' lv (vl z :: st) h) : J L xs l own cc nL ini d Q rc rs pc lv (st) h := by
  subst hp
  intro p e R s m args below meth c H locs cells slots TC TS n0 n1 D cA ad ad0 base b t ls Z X hl hR
  refine lv_lload_n X.1.1 X.1.2.1 dg hi (lvm_at hl he) ?_
  exact k _ _ _ _ _ _ _ _ _ _ _ _ _ _ _ _ _ _ _ _ _ _ _ _ _ _ X hl hR
theorem j_lload {i : Nat} {z : Int} (dg : decode cc pc = .ok (.lload i, 2)) (hp : pc + 2 = pc') (n : Nat) (he : lv[n]? = some (i, vl z)) (k : J L xs l own cc nL ini d Q rc rs pc' lv (vl z :: st) h) : J L xs l own cc nL ini d Q rc rs pc lv (st) h := by
  subst hp
  intro p e R s m args below meth c H locs cells slots TC TS n0 n1 D cA ad ad0 base b t ls Z X hl hR
  refine lv_lload X.1.1 X.1.2.1 dg (lvm_at hl he) ?_
  exact k _ _ _ _ _ _ _ _ _ _ _ _ _ _ _ _ _ _ _ _ _ _ _ _ _ _ X hl hR
theorem j_aload_n {k : Fin 4} {i q : Nat} (dg : decode cc pc = .ok (.aload_n k, 1)) (hp : pc + 1 = pc') (hi : (k : Nat) = i) (n : Nat) (he : lv[n]? = some (i, vr q)) (k : J L xs l own cc nL ini d Q rc rs pc' lv (vr q :: st) h) : J L xs l own cc nL ini d Q rc rs pc lv (st) h := by
  subst hp
  intro p e R s m args below meth c H locs cells slots TC TS n0 n1 D cA ad ad0 base b t ls Z X hl hR
  have h1 := lvm_at hl he
  by_cases hq : q = 0
  · subst hq
    refine lv_aload_nN X.1.1 X.1.2.1 dg hi h1 ?_
    exact k _ _ _ _ _ _ _ _ _ _ _ _ _ _ _ _ _ _ _ _ _ _ _ _ _ _ X hl hR
  · have h2 : cv ad (vr q) = .ref (ad q) := if_neg hq
    rw [h2] at h1
    refine lv_aload_n X.1.1 X.1.2.1 dg hi h1 ?_
    rw [← h2]
    exact k _ _ _ _ _ _ _ _ _ _ _ _ _ _ _ _ _ _ _ _ _ _ _ _ _ _ X hl hR
theorem j_aload {i q : Nat} (dg : decode cc pc = .ok (.aload i, 2)) (hp : pc + 2 = pc') (n : Nat) (he : lv[n]? = some (i, vr q)) (k : J L xs l own cc nL ini d Q rc rs pc' lv (vr q :: st) h) : J L xs l own cc nL ini d Q rc rs pc lv (st) h := by
  subst hp
  intro p e R s m args below meth c H locs cells slots TC TS n0 n1 D cA ad ad0 base b t ls Z X hl hR
  have h1 := lvm_at hl he
  by_cases hq : q = 0
  · subst hq
    refine lv_aloadN X.1.1 X.1.2.1 dg  h1 ?_
    exact k _ _ _ _ _ _ _ _ _ _ _ _ _ _ _ _ _ _ _ _ _ _ _ _ _ _ X hl hR
  · have h2 : cv ad (vr q) = .ref (ad q) := if_neg hq
    rw [h2] at h1
    refine lv_aload X.1.1 X.1.2.1 dg  h1 ?_
    rw [← h2]
    exact k _ _ _ _ _ _ _ _ _ _ _ _ _ _ _ _ _ _ _ _ _ _ _ _ _ _ X hl hR
theorem j_istore_n {k : Fin 4} {i : Nat} {z : Int} (dg : decode cc pc = .ok (.istore_n k, 1)) (hp : pc + 1 = pc') (hi : (k : Nat) = i) (hn : i < nL) (ks : List Nat) (he : lpk ((i, vi z) :: f1 i lv) ks = lv') (k : J L xs l own cc nL ini d Q rc rs pc' lv' st h) : J L xs l own cc nL ini d Q rc rs pc lv (vi z :: st) h := by
  subst hp
  intro p e R s m args below meth c H locs cells slots TC TS n0 n1 D cA ad ad0 base b t ls Z X hl hR
  refine lv_istore_n (lv' := lvm ad ((i, vi z) :: f1 i lv)) X.1.1 X.1.2.1 dg hi hl hn (by rw [lvm_f1]; rfl) (fun ls' hl' => ?_)
  exact k _ _ _ _ _ _ _ _ _ _ _ _ _ _ _ _ _ _ _ _ _ _ _ _ _ _ X (lvm_pk (a := _) hl' ks he) hR
theorem j_istore {i : Nat} {z : Int} (dg : decode cc pc = .ok (.istore i, 2)) (hp : pc + 2 = pc') (hn : i < nL) (ks : List Nat) (he : lpk ((i, vi z) :: f1 i lv) ks = lv') (k : J L xs l own cc nL ini d Q rc rs pc' lv' st h) : J L xs l own cc nL ini d Q rc rs pc lv (vi z :: st) h := by
  subst hp
  intro p e R s m args below meth c H locs cells slots TC TS n0 n1 D cA ad ad0 base b t ls Z X hl hR
  refine lv_istore (lv' := lvm ad ((i, vi z) :: f1 i lv)) X.1.1 X.1.2.1 dg hl hn (by rw [lvm_f1]; rfl) (fun ls' hl' => ?_)
  exact k _ _ _ _ _ _ _ _ _ _ _ _ _ _ _ _ _ _ _ _ _ _ _ _ _ _ X (lvm_pk (a := _) hl' ks he) hR
theorem j_lstore_n {k : Fin 4} {i : Nat} {z : Int} (dg : decode cc pc = .ok (.lstore_n k, 1)) (hp : pc + 1 = pc') (hi : (k : Nat) = i) (hn : i + 1 < nL) (ks : List Nat) (he : lpk ((i, vl z) :: f2 i lv) ks = lv') (k : J L xs l own cc nL ini d Q rc rs pc' lv' st h) : J L xs l own cc nL ini d Q rc rs pc lv (vl z :: st) h := by
  subst hp
  intro p e R s m args below meth c H locs cells slots TC TS n0 n1 D cA ad ad0 base b t ls Z X hl hR
  refine lv_lstore_n (lv' := lvm ad ((i, vl z) :: f2 i lv)) X.1.1 X.1.2.1 dg hi hl hn (by rw [lvm_f2]; rfl) (fun ls' hl' => ?_)
  exact k _ _ _ _ _ _ _ _ _ _ _ _ _ _ _ _ _ _ _ _ _ _ _ _ _ _ X (lvm_pk (a := _) hl' ks he) hR
theorem j_lstore {i : Nat} {z : Int} (dg : decode cc pc = .ok (.lstore i, 2)) (hp : pc + 2 = pc') (hn : i + 1 < nL) (ks : List Nat) (he : lpk ((i, vl z) :: f2 i lv) ks = lv') (k : J L xs l own cc nL ini d Q rc rs pc' lv' st h) : J L xs l own cc nL ini d Q rc rs pc lv (vl z :: st) h := by
  subst hp
  intro p e R s m args below meth c H locs cells slots TC TS n0 n1 D cA ad ad0 base b t ls Z X hl hR
  refine lv_lstore (lv' := lvm ad ((i, vl z) :: f2 i lv)) X.1.1 X.1.2.1 dg hl hn (by rw [lvm_f2]; rfl) (fun ls' hl' => ?_)
  exact k _ _ _ _ _ _ _ _ _ _ _ _ _ _ _ _ _ _ _ _ _ _ _ _ _ _ X (lvm_pk (a := _) hl' ks he) hR
theorem j_astore_n {k : Fin 4} {i q : Nat} (dg : decode cc pc = .ok (.astore_n k, 1)) (hp : pc + 1 = pc') (hi : (k : Nat) = i) (hn : i < nL) (ks : List Nat) (he : lpk ((i, vr q) :: f1 i lv) ks = lv') (k : J L xs l own cc nL ini d Q rc rs pc' lv' st h) : J L xs l own cc nL ini d Q rc rs pc lv (vr q :: st) h := by
  subst hp
  intro p e R s m args below meth c H locs cells slots TC TS n0 n1 D cA ad ad0 base b t ls Z X hl hR
  by_cases hq : q = 0
  · subst hq
    refine lv_astore_nN (lv' := lvm ad ((i, vr 0) :: f1 i lv)) X.1.1 X.1.2.1 dg hi hl hn (by rw [lvm_f1]; rfl) (fun ls' hl' => ?_)
    exact k _ _ _ _ _ _ _ _ _ _ _ _ _ _ _ _ _ _ _ _ _ _ _ _ _ _ X (lvm_pk (a := _) hl' ks he) hR
  · have h2 : cv ad (vr q) = .ref (ad q) := if_neg hq
    show W _ _ _ _ _ _ _ _ _ _ _ _ _ _ _ (F0 m pc ls (cv ad (vr q) :: st.map (cv ad)))
    rw [h2]
    refine lv_astore_n (lv' := lvm ad ((i, vr q) :: f1 i lv)) X.1.1 X.1.2.1 dg hi hl hn (by rw [lvm_f1, ← h2]; rfl) (fun ls' hl' => ?_)
    exact k _ _ _ _ _ _ _ _ _ _ _ _ _ _ _ _ _ _ _ _ _ _ _ _ _ _ X (lvm_pk (a := _) hl' ks he) hR
theorem j_astore {i q : Nat} (dg : decode cc pc = .ok (.astore i, 2)) (hp : pc + 2 = pc') (hn : i < nL) (ks : List Nat) (he : lpk ((i, vr q) :: f1 i lv) ks = lv') (k : J L xs l own cc nL ini d Q rc rs pc' lv' st h) : J L xs l own cc nL ini d Q rc rs pc lv (vr q :: st) h := by
  subst hp
  intro p e R s m args below meth c H locs cells slots TC TS n0 n1 D cA ad ad0 base b t ls Z X hl hR
  by_cases hq : q = 0
  · subst hq
    refine lv_astoreN (lv' := lvm ad ((i, vr 0) :: f1 i lv)) X.1.1 X.1.2.1 dg hl hn (by rw [lvm_f1]; rfl) (fun ls' hl' => ?_)
    exact k _ _ _ _ _ _ _ _ _ _ _ _ _ _ _ _ _ _ _ _ _ _ _ _ _ _ X (lvm_pk (a := _) hl' ks he) hR
  · have h2 : cv ad (vr q) = .ref (ad q) := if_neg hq
    show W _ _ _ _ _ _ _ _ _ _ _ _ _ _ _ (F0 m pc ls (cv ad (vr q) :: st.map (cv ad)))
    rw [h2]
    refine lv_astore (lv' := lvm ad ((i, vr q) :: f1 i lv)) X.1.1 X.1.2.1 dg hl hn (by rw [lvm_f1, ← h2]; rfl) (fun ls' hl' => ?_)
    exact k _ _ _ _ _ _ _ _ _ _ _ _ _ _ _ _ _ _ _ _ _ _ _ _ _ _ X (lvm_pk (a := _) hl' ks he) hR
theorem j_iinc {i k0 : Nat} {n z : Int} (dg : decode cc pc = .ok (.iinc i n, 3)) (hp : pc + 3 = pc') (hk : lv[k0]? = some (i, vi z)) (hn : i < nL) (ks : List Nat) (he : lpk ((i, vi (z + n)) :: f1 i lv) ks = lv') (k : J L xs l own cc nL ini d Q rc rs pc' lv' st h) : J L xs l own cc nL ini d Q rc rs pc lv st h := by
  subst hp
  intro p e R s m args below meth c H locs cells slots TC TS n0 n1 D cA ad ad0 base b t ls Z X hl hR
  refine lv_iinc (v := Int32.ofInt (z + n)) (k := k0) (lv' := lvm ad ((i, vi (z + n)) :: f1 i lv)) X.1.1 X.1.2.1 dg hl (by rw [lvm, List.getElem?_map, hk]; rfl) (by rw [Int32.ofInt_add]) hn (by rw [lvm_f1]; rfl) (fun ls' hl' => ?_)
  exact k _ _ _ _ _ _ _ _ _ _ _ _ _ _ _ _ _ _ _ _ _ _ _ _ _ _ X (lvm_pk (a := _) hl' ks he) hR
theorem j_iadd {x y : Int} (dg : decode cc pc = .ok (.iadd, 1)) (hp : pc + 1 = pc') (k : J L xs l own cc nL ini d Q rc rs pc' lv (vi (x + y) :: st) h) : J L xs l own cc nL ini d Q rc rs pc lv (vi y :: vi x :: st) h := by
  subst hp
  intro p e R s m args below meth c H locs cells slots TC TS n0 n1 D cA ad ad0 base b t ls Z X hl hR
  refine lv_iadd X.1.1 X.1.2.1 dg ?_
  rw [← Int32.ofInt_add]
  exact k _ _ _ _ _ _ _ _ _ _ _ _ _ _ _ _ _ _ _ _ _ _ _ _ _ _ X hl hR
theorem j_isub {x y : Int} (dg : decode cc pc = .ok (.isub, 1)) (hp : pc + 1 = pc') (k : J L xs l own cc nL ini d Q rc rs pc' lv (vi (x - y) :: st) h) : J L xs l own cc nL ini d Q rc rs pc lv (vi y :: vi x :: st) h := by
  subst hp
  intro p e R s m args below meth c H locs cells slots TC TS n0 n1 D cA ad ad0 base b t ls Z X hl hR
  refine lv_isub X.1.1 X.1.2.1 dg ?_
  rw [← Int32.ofInt_sub]
  exact k _ _ _ _ _ _ _ _ _ _ _ _ _ _ _ _ _ _ _ _ _ _ _ _ _ _ X hl hR
theorem j_imul {x y : Int} (dg : decode cc pc = .ok (.imul, 1)) (hp : pc + 1 = pc') (k : J L xs l own cc nL ini d Q rc rs pc' lv (vi (x * y) :: st) h) : J L xs l own cc nL ini d Q rc rs pc lv (vi y :: vi x :: st) h := by
  subst hp
  intro p e R s m args below meth c H locs cells slots TC TS n0 n1 D cA ad ad0 base b t ls Z X hl hR
  refine lv_imul X.1.1 X.1.2.1 dg ?_
  rw [← Int32.ofInt_mul]
  exact k _ _ _ _ _ _ _ _ _ _ _ _ _ _ _ _ _ _ _ _ _ _ _ _ _ _ X hl hR
theorem j_ladd {x y : Int} (dg : decode cc pc = .ok (.ladd, 1)) (hp : pc + 1 = pc') (k : J L xs l own cc nL ini d Q rc rs pc' lv (vl (x + y) :: st) h) : J L xs l own cc nL ini d Q rc rs pc lv (vl y :: vl x :: st) h := by
  subst hp
  intro p e R s m args below meth c H locs cells slots TC TS n0 n1 D cA ad ad0 base b t ls Z X hl hR
  refine lv_ladd X.1.1 X.1.2.1 dg ?_
  rw [← Int64.ofInt_add]
  exact k _ _ _ _ _ _ _ _ _ _ _ _ _ _ _ _ _ _ _ _ _ _ _ _ _ _ X hl hR
theorem j_lsub {x y : Int} (dg : decode cc pc = .ok (.lsub, 1)) (hp : pc + 1 = pc') (k : J L xs l own cc nL ini d Q rc rs pc' lv (vl (x - y) :: st) h) : J L xs l own cc nL ini d Q rc rs pc lv (vl y :: vl x :: st) h := by
  subst hp
  intro p e R s m args below meth c H locs cells slots TC TS n0 n1 D cA ad ad0 base b t ls Z X hl hR
  refine lv_lsub X.1.1 X.1.2.1 dg ?_
  rw [← Int64.ofInt_sub]
  exact k _ _ _ _ _ _ _ _ _ _ _ _ _ _ _ _ _ _ _ _ _ _ _ _ _ _ X hl hR
theorem j_lmul {x y : Int} (dg : decode cc pc = .ok (.lmul, 1)) (hp : pc + 1 = pc') (k : J L xs l own cc nL ini d Q rc rs pc' lv (vl (x * y) :: st) h) : J L xs l own cc nL ini d Q rc rs pc lv (vl y :: vl x :: st) h := by
  subst hp
  intro p e R s m args below meth c H locs cells slots TC TS n0 n1 D cA ad ad0 base b t ls Z X hl hR
  refine lv_lmul X.1.1 X.1.2.1 dg ?_
  rw [← Int64.ofInt_mul]
  exact k _ _ _ _ _ _ _ _ _ _ _ _ _ _ _ _ _ _ _ _ _ _ _ _ _ _ X hl hR
theorem j_iand {x y : Int} (dg : decode cc pc = .ok (.iand, 1)) (hp : pc + 1 = pc') (k : J L xs l own cc nL ini d Q rc rs pc' lv (vi (bAnd x y) :: st) h) : J L xs l own cc nL ini d Q rc rs pc lv (vi y :: vi x :: st) h := by
  subst hp
  intro p e R s m args below meth c H locs cells slots TC TS n0 n1 D cA ad ad0 base b t ls Z X hl hR
  refine lv_iand X.1.1 X.1.2.1 dg ?_
  have k := k _ _ _ _ _ _ _ _ _ _ _ _ _ _ _ _ _ _ _ _ _ _ _ _ _ _ X hl hR
  simp only [List.map_cons, cv, bAnd, Int32.ofInt_toInt] at k
  exact k
theorem j_ior {x y : Int} (dg : decode cc pc = .ok (.ior, 1)) (hp : pc + 1 = pc') (k : J L xs l own cc nL ini d Q rc rs pc' lv (vi (bOr x y) :: st) h) : J L xs l own cc nL ini d Q rc rs pc lv (vi y :: vi x :: st) h := by
  subst hp
  intro p e R s m args below meth c H locs cells slots TC TS n0 n1 D cA ad ad0 base b t ls Z X hl hR
  refine lv_ior X.1.1 X.1.2.1 dg ?_
  have k := k _ _ _ _ _ _ _ _ _ _ _ _ _ _ _ _ _ _ _ _ _ _ _ _ _ _ X hl hR
  simp only [List.map_cons, cv, bOr, Int32.ofInt_toInt] at k
  exact k
theorem j_ixor {x y : Int} (dg : decode cc pc = .ok (.ixor, 1)) (hp : pc + 1 = pc') (k : J L xs l own cc nL ini d Q rc rs pc' lv (vi (bXor x y) :: st) h) : J L xs l own cc nL ini d Q rc rs pc lv (vi y :: vi x :: st) h := by
  subst hp
  intro p e R s m args below meth c H locs cells slots TC TS n0 n1 D cA ad ad0 base b t ls Z X hl hR
  refine lv_ixor X.1.1 X.1.2.1 dg ?_
  have k := k _ _ _ _ _ _ _ _ _ _ _ _ _ _ _ _ _ _ _ _ _ _ _ _ _ _ X hl hR
  simp only [List.map_cons, cv, bXor, Int32.ofInt_toInt] at k
  exact k
theorem j_ishl {x y : Int} (dg : decode cc pc = .ok (.ishl, 1)) (hp : pc + 1 = pc') (k : J L xs l own cc nL ini d Q rc rs pc' lv (vi (bShl x y) :: st) h) : J L xs l own cc nL ini d Q rc rs pc lv (vi y :: vi x :: st) h := by
  subst hp
  intro p e R s m args below meth c H locs cells slots TC TS n0 n1 D cA ad ad0 base b t ls Z X hl hR
  refine lv_ishl X.1.1 X.1.2.1 dg ?_
  have k := k _ _ _ _ _ _ _ _ _ _ _ _ _ _ _ _ _ _ _ _ _ _ _ _ _ _ X hl hR
  simp only [List.map_cons, cv, bShl, Int32.ofInt_toInt] at k
  exact k
theorem j_ishr {x y : Int} (dg : decode cc pc = .ok (.ishr, 1)) (hp : pc + 1 = pc') (k : J L xs l own cc nL ini d Q rc rs pc' lv (vi (bShr x y) :: st) h) : J L xs l own cc nL ini d Q rc rs pc lv (vi y :: vi x :: st) h := by
  subst hp
  intro p e R s m args below meth c H locs cells slots TC TS n0 n1 D cA ad ad0 base b t ls Z X hl hR
  refine lv_ishr X.1.1 X.1.2.1 dg ?_
  have k := k _ _ _ _ _ _ _ _ _ _ _ _ _ _ _ _ _ _ _ _ _ _ _ _ _ _ X hl hR
  simp only [List.map_cons, cv, bShr, Int32.ofInt_toInt] at k
  exact k
theorem j_iushr {x y : Int} (dg : decode cc pc = .ok (.iushr, 1)) (hp : pc + 1 = pc') (k : J L xs l own cc nL ini d Q rc rs pc' lv (vi (bUsh x y) :: st) h) : J L xs l own cc nL ini d Q rc rs pc lv (vi y :: vi x :: st) h := by
  subst hp
  intro p e R s m args below meth c H locs cells slots TC TS n0 n1 D cA ad ad0 base b t ls Z X hl hR
  refine lv_iushr X.1.1 X.1.2.1 dg rfl ?_
  have k := k _ _ _ _ _ _ _ _ _ _ _ _ _ _ _ _ _ _ _ _ _ _ _ _ _ _ X hl hR
  simp only [List.map_cons, cv, bUsh, Int32.ofInt_toInt] at k
  exact k
theorem j_land {x y : Int} (dg : decode cc pc = .ok (.land, 1)) (hp : pc + 1 = pc') (k : J L xs l own cc nL ini d Q rc rs pc' lv (vl (lAnd x y) :: st) h) : J L xs l own cc nL ini d Q rc rs pc lv (vl y :: vl x :: st) h := by
  subst hp
  intro p e R s m args below meth c H locs cells slots TC TS n0 n1 D cA ad ad0 base b t ls Z X hl hR
  refine lv_land X.1.1 X.1.2.1 dg ?_
  have k := k _ _ _ _ _ _ _ _ _ _ _ _ _ _ _ _ _ _ _ _ _ _ _ _ _ _ X hl hR
  simp only [List.map_cons, cv, lAnd, Int64.ofInt_toInt] at k
  exact k
theorem j_lor {x y : Int} (dg : decode cc pc = .ok (.lor, 1)) (hp : pc + 1 = pc') (k : J L xs l own cc nL ini d Q rc rs pc' lv (vl (lOr x y) :: st) h) : J L xs l own cc nL ini d Q rc rs pc lv (vl y :: vl x :: st) h := by
  subst hp
  intro p e R s m args below meth c H locs cells slots TC TS n0 n1 D cA ad ad0 base b t ls Z X hl hR
  refine lv_lor X.1.1 X.1.2.1 dg ?_
  have k := k _ _ _ _ _ _ _ _ _ _ _ _ _ _ _ _ _ _ _ _ _ _ _ _ _ _ X hl hR
  simp only [List.map_cons, cv, lOr, Int64.ofInt_toInt] at k
  exact k
theorem j_lshl {x y : Int} (dg : decode cc pc = .ok (.lshl, 1)) (hp : pc + 1 = pc') (k : J L xs l own cc nL ini d Q rc rs pc' lv (vl (lShl x y) :: st) h) : J L xs l own cc nL ini d Q rc rs pc lv (vi y :: vl x :: st) h := by
  subst hp
  intro p e R s m args below meth c H locs cells slots TC TS n0 n1 D cA ad ad0 base b t ls Z X hl hR
  refine lv_lshl X.1.1 X.1.2.1 dg rfl ?_
  have k := k _ _ _ _ _ _ _ _ _ _ _ _ _ _ _ _ _ _ _ _ _ _ _ _ _ _ X hl hR
  simp only [List.map_cons, cv, lShl, Int64.ofInt_toInt] at k
  exact k
theorem j_lshr {x y : Int} (dg : decode cc pc = .ok (.lshr, 1)) (hp : pc + 1 = pc') (k : J L xs l own cc nL ini d Q rc rs pc' lv (vl (lShr x y) :: st) h) : J L xs l own cc nL ini d Q rc rs pc lv (vi y :: vl x :: st) h := by
  subst hp
  intro p e R s m args below meth c H locs cells slots TC TS n0 n1 D cA ad ad0 base b t ls Z X hl hR
  refine lv_lshr X.1.1 X.1.2.1 dg rfl ?_
  have k := k _ _ _ _ _ _ _ _ _ _ _ _ _ _ _ _ _ _ _ _ _ _ _ _ _ _ X hl hR
  simp only [List.map_cons, cv, lShr, Int64.ofInt_toInt] at k
  exact k
theorem j_idiv {x y : Int} (dg : decode cc pc = .ok (.idiv, 1)) (hp : pc + 1 = pc') (hy : R32 y) (hz : y ≠ 0) (k : J L xs l own cc nL ini d Q rc rs pc' lv (vi (bDiv x y) :: st) h) : J L xs l own cc nL ini d Q rc rs pc lv (vi y :: vi x :: st) h := by
  subst hp
  intro p e R s m args below meth c H locs cells slots TC TS n0 n1 D cA ad ad0 base b t ls Z X hl hR
  refine lv_idiv X.1.1 X.1.2.1 dg (fun z => hz ((i32_nz hy).mp z)) ?_
  have k := k _ _ _ _ _ _ _ _ _ _ _ _ _ _ _ _ _ _ _ _ _ _ _ _ _ _ X hl hR
  simp only [List.map_cons, cv, bDiv, Int32.ofInt_toInt] at k
  exact k
theorem j_irem {x y : Int} (dg : decode cc pc = .ok (.irem, 1)) (hp : pc + 1 = pc') (hy : R32 y) (hz : y ≠ 0) (k : J L xs l own cc nL ini d Q rc rs pc' lv (vi (bRem x y) :: st) h) : J L xs l own cc nL ini d Q rc rs pc lv (vi y :: vi x :: st) h := by
  subst hp
  intro p e R s m args below meth c H locs cells slots TC TS n0 n1 D cA ad ad0 base b t ls Z X hl hR
  refine lv_irem X.1.1 X.1.2.1 dg (fun z => hz ((i32_nz hy).mp z)) ?_
  have k := k _ _ _ _ _ _ _ _ _ _ _ _ _ _ _ _ _ _ _ _ _ _ _ _ _ _ X hl hR
  simp only [List.map_cons, cv, bRem, Int32.ofInt_toInt] at k
  exact k
theorem i64_nz {x : Int} (hx : R64 x) : Int64.ofInt x = 0 ↔ x = 0 := by
  have := i64_eq hx (y := 0) ⟨by decide, by decide⟩
  rwa [show Int64.ofInt 0 = 0 from rfl] at this
theorem j_ldiv {x y : Int} (dg : decode cc pc = .ok (.ldiv, 1)) (hp : pc + 1 = pc') (hy : R64 y) (hz : y ≠ 0) (k : J L xs l own cc nL ini d Q rc rs pc' lv (vl (lDiv x y) :: st) h) : J L xs l own cc nL ini d Q rc rs pc lv (vl y :: vl x :: st) h := by
  subst hp
  intro p e R s m args below meth c H locs cells slots TC TS n0 n1 D cA ad ad0 base b t ls Z X hl hR
  refine lv_ldiv X.1.1 X.1.2.1 dg (fun z => hz ((i64_nz hy).mp z)) ?_
  have k := k _ _ _ _ _ _ _ _ _ _ _ _ _ _ _ _ _ _ _ _ _ _ _ _ _ _ X hl hR
  simp only [List.map_cons, cv, lDiv, Int64.ofInt_toInt] at k
  exact k
theorem j_ineg {x : Int} (dg : decode cc pc = .ok (.ineg, 1)) (hp : pc + 1 = pc') (k : J L xs l own cc nL ini d Q rc rs pc' lv (vi (-x) :: st) h) : J L xs l own cc nL ini d Q rc rs pc lv (vi x :: st) h := by
  subst hp
  intro p e R s m args below meth c H locs cells slots TC TS n0 n1 D cA ad ad0 base b t ls Z X hl hR
  refine lv_ineg X.1.1 X.1.2.1 dg ?_
  have k := k _ _ _ _ _ _ _ _ _ _ _ _ _ _ _ _ _ _ _ _ _ _ _ _ _ _ X hl hR
  simp only [List.map_cons, cv, Int32.ofInt_neg] at k
  simpa using k
theorem j_i2l {x : Int} (dg : decode cc pc = .ok (.i2l, 1)) (hp : pc + 1 = pc') (hx : R32 x) (k : J L xs l own cc nL ini d Q rc rs pc' lv (vl x :: st) h) : J L xs l own cc nL ini d Q rc rs pc lv (vi x :: st) h := by
  subst hp
  intro p e R s m args below meth c H locs cells slots TC TS n0 n1 D cA ad ad0 base b t ls Z X hl hR
  refine lv_i2l X.1.1 X.1.2.1 dg (i32_toL hx) ?_
  exact k _ _ _ _ _ _ _ _ _ _ _ _ _ _ _ _ _ _ _ _ _ _ _ _ _ _ X hl hR
theorem j_l2i {x : Int} (dg : decode cc pc = .ok (.l2i, 1)) (hp : pc + 1 = pc') (k : J L xs l own cc nL ini d Q rc rs pc' lv (vi (l2w x) :: st) h) : J L xs l own cc nL ini d Q rc rs pc lv (vl x :: st) h := by
  subst hp
  intro p e R s m args below meth c H locs cells slots TC TS n0 n1 D cA ad ad0 base b t ls Z X hl hR
  refine lv_l2i X.1.1 X.1.2.1 dg rfl ?_
  have k := k _ _ _ _ _ _ _ _ _ _ _ _ _ _ _ _ _ _ _ _ _ _ _ _ _ _ X hl hR
  simp only [List.map_cons, cv, l2w, Int32.ofInt_toInt] at k
  exact k
theorem j_i2b {x : Int} (dg : decode cc pc = .ok (.i2b, 1)) (hp : pc + 1 = pc') (k : J L xs l own cc nL ini d Q rc rs pc' lv (vi (w8 x) :: st) h) : J L xs l own cc nL ini d Q rc rs pc lv (vi x :: st) h := by
  subst hp
  intro p e R s m args below meth c H locs cells slots TC TS n0 n1 D cA ad ad0 base b t ls Z X hl hR
  refine lv_i2b X.1.1 X.1.2.1 dg rfl ?_
  have k := k _ _ _ _ _ _ _ _ _ _ _ _ _ _ _ _ _ _ _ _ _ _ _ _ _ _ X hl hR
  simp only [List.map_cons, cv, w8, Int32.ofInt_toInt] at k
  exact k
theorem j_i2s {x : Int} (dg : decode cc pc = .ok (.i2s, 1)) (hp : pc + 1 = pc') (k : J L xs l own cc nL ini d Q rc rs pc' lv (vi (w16 x) :: st) h) : J L xs l own cc nL ini d Q rc rs pc lv (vi x :: st) h := by
  subst hp
  intro p e R s m args below meth c H locs cells slots TC TS n0 n1 D cA ad ad0 base b t ls Z X hl hR
  refine lv_i2s X.1.1 X.1.2.1 dg rfl ?_
  have k := k _ _ _ _ _ _ _ _ _ _ _ _ _ _ _ _ _ _ _ _ _ _ _ _ _ _ X hl hR
  simp only [List.map_cons, cv, w16, Int32.ofInt_toInt] at k
  exact k
theorem jl_cmp_eq {x y : Int} (hx : R64 x) (hy : R64 y) : lg_cmp (Int64.ofInt x) (Int64.ofInt y) = Int32.ofInt (lCmp x y) := by
  unfold lg_cmp lCmp
  have hlt : (Int64.ofInt x > Int64.ofInt y) ↔ y < x := i64_lt hy hx
  by_cases h1 : x < y
  · rw [if_neg (by rw [hlt]; omega), if_neg (by rw [i64_eq hx hy]; omega), if_pos h1]; rfl
  · by_cases h2 : x = y
    · subst h2
      rw [if_neg (by rw [hlt]; omega), if_pos rfl, if_neg h1, if_pos rfl]; rfl
    · rw [if_pos (by rw [hlt]; omega), if_neg h1, if_neg h2]; rfl
theorem j_lcmp {x y : Int} (dg : decode cc pc = .ok (.lcmp, 1)) (hp : pc + 1 = pc') (hx : R64 x) (hy : R64 y) (k : J L xs l own cc nL ini d Q rc rs pc' lv (vi (lCmp x y) :: st) h) : J L xs l own cc nL ini d Q rc rs pc lv (vl y :: vl x :: st) h := by
  subst hp
  intro p e R s m args below meth c H locs cells slots TC TS n0 n1 D cA ad ad0 base b t ls Z X hl hR
  refine W.lcmp X.1.1 X.1.2.1 dg ?_
  rw [jl_cmp_eq hx hy]
  exact k _ _ _ _ _ _ _ _ _ _ _ _ _ _ _ _ _ _ _ _ _ _ _ _ _ _ X hl hR
theorem j_dup {v : AV} (dg : decode cc pc = .ok (.dup, 1)) (hp : pc + 1 = pc') (hv : catv v = 1) (k : J L xs l own cc nL ini d Q rc rs pc' lv (v :: v :: st) h) : J L xs l own cc nL ini d Q rc rs pc lv (v :: st) h := by
  subst hp
  intro p e R s m args below meth c H locs cells slots TC TS n0 n1 D cA ad ad0 base b t ls Z X hl hR
  refine lv_dup X.1.1 X.1.2.1 dg (by rw [cv_cat]; exact hv) ?_
  exact k _ _ _ _ _ _ _ _ _ _ _ _ _ _ _ _ _ _ _ _ _ _ _ _ _ _ X hl hR
theorem j_dup2 {v w : AV} (dg : decode cc pc = .ok (.dup2, 1)) (hp : pc + 1 = pc') (hv : catv v = 1) (hw : catv w = 1) (k : J L xs l own cc nL ini d Q rc rs pc' lv (v :: w :: v :: w :: st) h) : J L xs l own cc nL ini d Q rc rs pc lv (v :: w :: st) h := by
  subst hp
  intro p e R s m args below meth c H locs cells slots TC TS n0 n1 D cA ad ad0 base b t ls Z X hl hR
  refine lv_dup2_11 X.1.1 X.1.2.1 dg (by rw [cv_cat]; exact hv) (by rw [cv_cat]; exact hw) ?_
  exact k _ _ _ _ _ _ _ _ _ _ _ _ _ _ _ _ _ _ _ _ _ _ _ _ _ _ X hl hR
theorem j_pop {v : AV} (dg : decode cc pc = .ok (.pop, 1)) (hp : pc + 1 = pc') (hv : catv v = 1) (k : J L xs l own cc nL ini d Q rc rs pc' lv (st) h) : J L xs l own cc nL ini d Q rc rs pc lv (v :: st) h := by
  subst hp
  intro p e R s m args below meth c H locs cells slots TC TS n0 n1 D cA ad ad0 base b t ls Z X hl hR
  refine lv_pop X.1.1 X.1.2.1 dg (by rw [cv_cat]; exact hv) ?_
  exact k _ _ _ _ _ _ _ _ _ _ _ _ _ _ _ _ _ _ _ _ _ _ _ _ _ _ X hl hR
theorem z32 : R32 0 := ⟨by decide, by decide⟩
theorem j_icmp_eq {x y off : Int} {tgt : Nat} (dg : decode cc pc = .ok (.if_icmp .eq off, 3)) (ht : (pc : Int) + off = (tgt : Int)) (hp : pc + 3 = pc') (hx : R32 x) (hy : R32 y) (kt : x = y → J L xs l own cc nL ini d Q rc rs tgt lv st h) (kf : ¬ (x = y) → J L xs l own cc nL ini d Q rc rs pc' lv st h) : J L xs l own cc nL ini d Q rc rs pc lv (vi y :: vi x :: st) h := by
  subst hp
  intro p e R s m args below meth c H locs cells slots TC TS n0 n1 D cA ad ad0 base b t ls Z X hl hR
  refine lv_icmp_eq X.1.1 X.1.2.1 dg ht (fun z => ?_) (fun z => ?_)
  · exact kt ((i32_eq hx hy).mp z) _ _ _ _ _ _ _ _ _ _ _ _ _ _ _ _ _ _ _ _ _ _ _ _ _ _ X hl hR
  · exact kf (fun q => z ((i32_eq hx hy).mpr q)) _ _ _ _ _ _ _ _ _ _ _ _ _ _ _ _ _ _ _ _ _ _ _ _ _ _ X hl hR
theorem j_if_eq {x off : Int} {tgt : Nat} (dg : decode cc pc = .ok (.ifCond .eq off, 3)) (ht : (pc : Int) + off = (tgt : Int)) (hp : pc + 3 = pc') (hx : R32 x) (kt : x = 0 → J L xs l own cc nL ini d Q rc rs tgt lv st h) (kf : ¬ (x = 0) → J L xs l own cc nL ini d Q rc rs pc' lv st h) : J L xs l own cc nL ini d Q rc rs pc lv (vi x :: st) h := by
  subst hp
  intro p e R s m args below meth c H locs cells slots TC TS n0 n1 D cA ad ad0 base b t ls Z X hl hR
  refine lv_if_eq X.1.1 X.1.2.1 dg ht (fun z => ?_) (fun z => ?_)
  · exact kt ((i32_eq hx z32).mp z) _ _ _ _ _ _ _ _ _ _ _ _ _ _ _ _ _ _ _ _ _ _ _ _ _ _ X hl hR
  · exact kf (fun q => z ((i32_eq hx z32).mpr q)) _ _ _ _ _ _ _ _ _ _ _ _ _ _ _ _ _ _ _ _ _ _ _ _ _ _ X hl hR
theorem j_icmp_ne {x y off : Int} {tgt : Nat} (dg : decode cc pc = .ok (.if_icmp .ne off, 3)) (ht : (pc : Int) + off = (tgt : Int)) (hp : pc + 3 = pc') (hx : R32 x) (hy : R32 y) (kt : ¬ x = y → J L xs l own cc nL ini d Q rc rs tgt lv st h) (kf : x = y → J L xs l own cc nL ini d Q rc rs pc' lv st h) : J L xs l own cc nL ini d Q rc rs pc lv (vi y :: vi x :: st) h := by
  subst hp
  intro p e R s m args below meth c H locs cells slots TC TS n0 n1 D cA ad ad0 base b t ls Z X hl hR
  refine lv_icmp_ne X.1.1 X.1.2.1 dg ht (fun z => ?_) (fun z => ?_)
  · exact kt ((not_congr (i32_eq hx hy)).mp z) _ _ _ _ _ _ _ _ _ _ _ _ _ _ _ _ _ _ _ _ _ _ _ _ _ _ X hl hR
  · exact kf ((i32_eq hx hy).mp z) _ _ _ _ _ _ _ _ _ _ _ _ _ _ _ _ _ _ _ _ _ _ _ _ _ _ X hl hR
theorem j_if_ne {x off : Int} {tgt : Nat} (dg : decode cc pc = .ok (.ifCond .ne off, 3)) (ht : (pc : Int) + off = (tgt : Int)) (hp : pc + 3 = pc') (hx : R32 x) (kt : ¬ x = 0 → J L xs l own cc nL ini d Q rc rs tgt lv st h) (kf : x = 0 → J L xs l own cc nL ini d Q rc rs pc' lv st h) : J L xs l own cc nL ini d Q rc rs pc lv (vi x :: st) h := by
  subst hp
  intro p e R s m args below meth c H locs cells slots TC TS n0 n1 D cA ad ad0 base b t ls Z X hl hR
  refine lv_if_ne X.1.1 X.1.2.1 dg ht (fun z => ?_) (fun z => ?_)
  · exact kt ((not_congr (i32_eq hx z32)).mp z) _ _ _ _ _ _ _ _ _ _ _ _ _ _ _ _ _ _ _ _ _ _ _ _ _ _ X hl hR
  · exact kf ((i32_eq hx z32).mp z) _ _ _ _ _ _ _ _ _ _ _ _ _ _ _ _ _ _ _ _ _ _ _ _ _ _ X hl hR
theorem j_icmp_lt {x y off : Int} {tgt : Nat} (dg : decode cc pc = .ok (.if_icmp .lt off, 3)) (ht : (pc : Int) + off = (tgt : Int)) (hp : pc + 3 = pc') (hx : R32 x) (hy : R32 y) (kt : x < y → J L xs l own cc nL ini d Q rc rs tgt lv st h) (kf : ¬ (x < y) → J L xs l own cc nL ini d Q rc rs pc' lv st h) : J L xs l own cc nL ini d Q rc rs pc lv (vi y :: vi x :: st) h := by
  subst hp
  intro p e R s m args below meth c H locs cells slots TC TS n0 n1 D cA ad ad0 base b t ls Z X hl hR
  refine lv_icmp_lt X.1.1 X.1.2.1 dg ht (fun z => ?_) (fun z => ?_)
  · exact kt ((i32_lt hx hy).mp z) _ _ _ _ _ _ _ _ _ _ _ _ _ _ _ _ _ _ _ _ _ _ _ _ _ _ X hl hR
  · exact kf (fun q => z ((i32_lt hx hy).mpr q)) _ _ _ _ _ _ _ _ _ _ _ _ _ _ _ _ _ _ _ _ _ _ _ _ _ _ X hl hR
theorem j_if_lt {x off : Int} {tgt : Nat} (dg : decode cc pc = .ok (.ifCond .lt off, 3)) (ht : (pc : Int) + off = (tgt : Int)) (hp : pc + 3 = pc') (hx : R32 x) (kt : x < 0 → J L xs l own cc nL ini d Q rc rs tgt lv st h) (kf : ¬ (x < 0) → J L xs l own cc nL ini d Q rc rs pc' lv st h) : J L xs l own cc nL ini d Q rc rs pc lv (vi x :: st) h := by
  subst hp
  intro p e R s m args below meth c H locs cells slots TC TS n0 n1 D cA ad ad0 base b t ls Z X hl hR
  refine lv_if_lt X.1.1 X.1.2.1 dg ht (fun z => ?_) (fun z => ?_)
  · exact kt ((i32_lt hx z32).mp z) _ _ _ _ _ _ _ _ _ _ _ _ _ _ _ _ _ _ _ _ _ _ _ _ _ _ X hl hR
  · exact kf (fun q => z ((i32_lt hx z32).mpr q)) _ _ _ _ _ _ _ _ _ _ _ _ _ _ _ _ _ _ _ _ _ _ _ _ _ _ X hl hR
theorem j_icmp_ge {x y off : Int} {tgt : Nat} (dg : decode cc pc = .ok (.if_icmp .ge off, 3)) (ht : (pc : Int) + off = (tgt : Int)) (hp : pc + 3 = pc') (hx : R32 x) (hy : R32 y) (kt : y ≤ x → J L xs l own cc nL ini d Q rc rs tgt lv st h) (kf : ¬ (y ≤ x) → J L xs l own cc nL ini d Q rc rs pc' lv st h) : J L xs l own cc nL ini d Q rc rs pc lv (vi y :: vi x :: st) h := by
  subst hp
  intro p e R s m args below meth c H locs cells slots TC TS n0 n1 D cA ad ad0 base b t ls Z X hl hR
  refine lv_icmp_ge X.1.1 X.1.2.1 dg ht (fun z => ?_) (fun z => ?_)
  · exact kt ((i32_le hy hx).mp z) _ _ _ _ _ _ _ _ _ _ _ _ _ _ _ _ _ _ _ _ _ _ _ _ _ _ X hl hR
  · exact kf (fun q => z ((i32_le hy hx).mpr q)) _ _ _ _ _ _ _ _ _ _ _ _ _ _ _ _ _ _ _ _ _ _ _ _ _ _ X hl hR
theorem j_if_ge {x off : Int} {tgt : Nat} (dg : decode cc pc = .ok (.ifCond .ge off, 3)) (ht : (pc : Int) + off = (tgt : Int)) (hp : pc + 3 = pc') (hx : R32 x) (kt : 0 ≤ x → J L xs l own cc nL ini d Q rc rs tgt lv st h) (kf : ¬ (0 ≤ x) → J L xs l own cc nL ini d Q rc rs pc' lv st h) : J L xs l own cc nL ini d Q rc rs pc lv (vi x :: st) h := by
  subst hp
  intro p e R s m args below meth c H locs cells slots TC TS n0 n1 D cA ad ad0 base b t ls Z X hl hR
  refine lv_if_ge X.1.1 X.1.2.1 dg ht (fun z => ?_) (fun z => ?_)
  · exact kt ((i32_le z32 hx).mp z) _ _ _ _ _ _ _ _ _ _ _ _ _ _ _ _ _ _ _ _ _ _ _ _ _ _ X hl hR
  · exact kf (fun q => z ((i32_le z32 hx).mpr q)) _ _ _ _ _ _ _ _ _ _ _ _ _ _ _ _ _ _ _ _ _ _ _ _ _ _ X hl hR
theorem j_icmp_gt {x y off : Int} {tgt : Nat} (dg : decode cc pc = .ok (.if_icmp .gt off, 3)) (ht : (pc : Int) + off = (tgt : Int)) (hp : pc + 3 = pc') (hx : R32 x) (hy : R32 y) (kt : y < x → J L xs l own cc nL ini d Q rc rs tgt lv st h) (kf : ¬ (y < x) → J L xs l own cc nL ini d Q rc rs pc' lv st h) : J L xs l own cc nL ini d Q rc rs pc lv (vi y :: vi x :: st) h := by
  subst hp
  intro p e R s m args below meth c H locs cells slots TC TS n0 n1 D cA ad ad0 base b t ls Z X hl hR
  refine lv_icmp_gt X.1.1 X.1.2.1 dg ht (fun z => ?_) (fun z => ?_)
  · exact kt ((i32_lt hy hx).mp z) _ _ _ _ _ _ _ _ _ _ _ _ _ _ _ _ _ _ _ _ _ _ _ _ _ _ X hl hR
  · exact kf (fun q => z ((i32_lt hy hx).mpr q)) _ _ _ _ _ _ _ _ _ _ _ _ _ _ _ _ _ _ _ _ _ _ _ _ _ _ X hl hR
theorem j_if_gt {x off : Int} {tgt : Nat} (dg : decode cc pc = .ok (.ifCond .gt off, 3)) (ht : (pc : Int) + off = (tgt : Int)) (hp : pc + 3 = pc') (hx : R32 x) (kt : 0 < x → J L xs l own cc nL ini d Q rc rs tgt lv st h) (kf : ¬ (0 < x) → J L xs l own cc nL ini d Q rc rs pc' lv st h) : J L xs l own cc nL ini d Q rc rs pc lv (vi x :: st) h := by
  subst hp
  intro p e R s m args below meth c H locs cells slots TC TS n0 n1 D cA ad ad0 base b t ls Z X hl hR
  refine lv_if_gt X.1.1 X.1.2.1 dg ht (fun z => ?_) (fun z => ?_)
  · exact kt ((i32_lt z32 hx).mp z) _ _ _ _ _ _ _ _ _ _ _ _ _ _ _ _ _ _ _ _ _ _ _ _ _ _ X hl hR
  · exact kf (fun q => z ((i32_lt z32 hx).mpr q)) _ _ _ _ _ _ _ _ _ _ _ _ _ _ _ _ _ _ _ _ _ _ _ _ _ _ X hl hR
theorem j_icmp_le {x y off : Int} {tgt : Nat} (dg : decode cc pc = .ok (.if_icmp .le off, 3)) (ht : (pc : Int) + off = (tgt : Int)) (hp : pc + 3 = pc') (hx : R32 x) (hy : R32 y) (kt : x ≤ y → J L xs l own cc nL ini d Q rc rs tgt lv st h) (kf : ¬ (x ≤ y) → J L xs l own cc nL ini d Q rc rs pc' lv st h) : J L xs l own cc nL ini d Q rc rs pc lv (vi y :: vi x :: st) h := by
  subst hp
  intro p e R s m args below meth c H locs cells slots TC TS n0 n1 D cA ad ad0 base b t ls Z X hl hR
  refine lv_icmp_le X.1.1 X.1.2.1 dg ht (fun z => ?_) (fun z => ?_)
  · exact kt ((i32_le hx hy).mp z) _ _ _ _ _ _ _ _ _ _ _ _ _ _ _ _ _ _ _ _ _ _ _ _ _ _ X hl hR
  · exact kf (fun q => z ((i32_le hx hy).mpr q)) _ _ _ _ _ _ _ _ _ _ _ _ _ _ _ _ _ _ _ _ _ _ _ _ _ _ X hl hR
theorem j_if_le {x off : Int} {tgt : Nat} (dg : decode cc pc = .ok (.ifCond .le off, 3)) (ht : (pc : Int) + off = (tgt : Int)) (hp : pc + 3 = pc') (hx : R32 x) (kt : x ≤ 0 → J L xs l own cc nL ini d Q rc rs tgt lv st h) (kf : ¬ (x ≤ 0) → J L xs l own cc nL ini d Q rc rs pc' lv st h) : J L xs l own cc nL ini d Q rc rs pc lv (vi x :: st) h := by
  subst hp
  intro p e R s m args below meth c H locs cells slots TC TS n0 n1 D cA ad ad0 base b t ls Z X hl hR
  refine lv_if_le X.1.1 X.1.2.1 dg ht (fun z => ?_) (fun z => ?_)
  · exact kt ((i32_le hx z32).mp z) _ _ _ _ _ _ _ _ _ _ _ _ _ _ _ _ _ _ _ _ _ _ _ _ _ _ X hl hR
  · exact kf (fun q => z ((i32_le hx z32).mpr q)) _ _ _ _ _ _ _ _ _ _ _ _ _ _ _ _ _ _ _ _ _ _ _ _ _ _ X hl hR
theorem j_goto {off : Int} {tgt : Nat} (dg : decode cc pc = .ok (.goto off, 3)) (ht : (pc : Int) + off = (tgt : Int)) (k : J L xs l own cc nL ini d Q rc rs tgt lv st h) : J L xs l own cc nL ini d Q rc rs pc lv st h := by
  intro p e R s m args below meth c H locs cells slots TC TS n0 n1 D cA ad ad0 base b t ls Z X hl hR
  refine lv_goto X.1.1 X.1.2.1 dg ht ?_
  exact k _ _ _ _ _ _ _ _ _ _ _ _ _ _ _ _ _ _ _ _ _ _ _ _ _ _ X hl hR
theorem j_tabIn {dflt lo hi x off : Int} {offs : Array Int} {len tgt : Nat} (dg : decode cc pc = .ok (.tableswitch dflt lo hi offs, len)) (hx : R32 x) (h1 : ¬ x < lo) (h2 : ¬ hi < x) (ho : offs[(x - lo).toNat]? = some off) (ht : (pc : Int) + off = (tgt : Int)) (k : J L xs l own cc nL ini d Q rc rs tgt lv st h) : J L xs l own cc nL ini d Q rc rs pc lv (vi x :: st) h := by
  intro p e R s m args below meth c H locs cells slots TC TS n0 n1 D cA ad ad0 base b t ls Z X hl hR
  refine lv_tableIn X.1.1 X.1.2.1 dg (by rw [i32_to hx]; exact h1) (by rw [i32_to hx]; exact h2) (by rw [i32_to hx]; exact ho) ht ?_
  exact k _ _ _ _ _ _ _ _ _ _ _ _ _ _ _ _ _ _ _ _ _ _ _ _ _ _ X hl hR
theorem j_tabOut {dflt lo hi x : Int} {offs : Array Int} {len tgt : Nat} (dg : decode cc pc = .ok (.tableswitch dflt lo hi offs, len)) (hx : R32 x) (h1 : x < lo ∨ hi < x) (ht : (pc : Int) + dflt = (tgt : Int)) (k : J L xs l own cc nL ini d Q rc rs tgt lv st h) : J L xs l own cc nL ini d Q rc rs pc lv (vi x :: st) h := by
  intro p e R s m args below meth c H locs cells slots TC TS n0 n1 D cA ad ad0 base b t ls Z X hl hR
  refine lv_tableOut X.1.1 X.1.2.1 dg (by rw [i32_to hx]; exact h1) ht ?_
  exact k _ _ _ _ _ _ _ _ _ _ _ _ _ _ _ _ _ _ _ _ _ _ _ _ _ _ X hl hR
theorem j_ifnonnull {q : Nat} {off : Int} {tgt : Nat} (dg : decode cc pc = .ok (.ifnonnull off, 3)) (ht : (pc : Int) + off = (tgt : Int)) (hp : pc + 3 = pc') (kt : q ≠ 0 → J L xs l own cc nL ini d Q rc rs tgt lv st h) (kf : q = 0 → J L xs l own cc nL ini d Q rc rs pc' lv st h) : J L xs l own cc nL ini d Q rc rs pc lv (vr q :: st) h := by
  subst hp
  intro p e R s m args below meth c H locs cells slots TC TS n0 n1 D cA ad ad0 base b t ls Z X hl hR
  by_cases hq : q = 0
  · have h2 := kf hq
    subst hq
    refine lv_ifnonnullN X.1.1 X.1.2.1 dg ?_
    exact h2 _ _ _ _ _ _ _ _ _ _ _ _ _ _ _ _ _ _ _ _ _ _ _ _ _ _ X hl hR
  · have h2 : cv ad (vr q) = .ref (ad q) := if_neg hq
    show W _ _ _ _ _ _ _ _ _ _ _ _ _ _ _ (F0 m pc ls (cv ad (vr q) :: st.map (cv ad)))
    rw [h2]
    refine lv_ifnonnull X.1.1 X.1.2.1 dg ht ?_
    exact kt hq _ _ _ _ _ _ _ _ _ _ _ _ _ _ _ _ _ _ _ _ _ _ _ _ _ _ X hl hR
-- returns
theorem j_iret {z : Int} (dg : decode cc pc = .ok (.ireturn, 1)) (hz : R32 z) (hq : Q (vi z) h) : J L xs l own cc nL ini d Q rc rs pc lv [vi z] h := by
  intro p e R s m args below meth c H locs cells slots TC TS n0 n1 D cA ad ad0 base b t ls Z X hl hR
  obtain ⟨x1, ⟨y1, y2, y3, y4, y5, y6, y7, y8, y9, y10⟩, x3, x4, x5⟩ := X
  exact hR (vi z) h cA ad H locs cells slots pc ls hq hz y7 (by omega) y10 x4 x5 (by omega) (by omega) (Or.inl ⟨z, rfl, dg⟩)
theorem j_lret {z : Int} (dg : decode cc pc = .ok (.lreturn, 1)) (hz : R64 z) (hq : Q (vl z) h) : J L xs l own cc nL ini d Q rc rs pc lv [vl z] h := by
  intro p e R s m args below meth c H locs cells slots TC TS n0 n1 D cA ad ad0 base b t ls Z X hl hR
  obtain ⟨x1, ⟨y1, y2, y3, y4, y5, y6, y7, y8, y9, y10⟩, x3, x4, x5⟩ := X
  exact hR (vl z) h cA ad H locs cells slots pc ls hq hz y7 (by omega) y10 x4 x5 (by omega) (by omega) (Or.inr (Or.inl ⟨z, rfl, dg⟩))
theorem j_vret (dg : decode cc pc = .ok (.return_, 1)) (hq : Q vu h) : J L xs l own cc nL ini d Q rc rs pc lv [] h := by
  intro p e R s m args below meth c H locs cells slots TC TS n0 n1 D cA ad ad0 base b t ls Z X hl hR
  obtain ⟨x1, ⟨y1, y2, y3, y4, y5, y6, y7, y8, y9, y10⟩, x3, x4, x5⟩ := X
  exact hR vu h cA ad H locs cells slots pc ls hq trivial y7 (by omega) y10 x4 x5 (by omega) (by omega) (Or.inr (Or.inr ⟨rfl, dg⟩))
end
end
section
def CLok (ci : Nat) (C : String) (T : u_T) (N : Nat) (ty : Nat → FieldType) : Prop := vwCl[ci]? = some (C, T, N) ∧ (∀ w ∈ u_ws C T N, w ∈ gtb) ∧ (∀ k, k < N → parseFieldDescriptor (T k).2.2.1 = some (ty k)) ∧ ∀ a, a < N → ∀ b, b < N → a ≠ b → (T a).2.1 ≠ (T b).2.1
def FL (own : String) (ix ci k : Nat) : Prop := ∃ (C : String) (T : u_T) (N : Nat) (ty : Nat → FieldType), CLok ci C T N ty ∧ k < N ∧ Cond.fieldLink own ix (T k).1 (T k).2.1 (T k).2.2.1 ∈ gtb
def FP (own : String) (ix ci k : Nat) (fin : Bool) (tp : FieldType → Prop) : Prop := ∃ (C : String) (T : u_T) (N : Nat) (ty : Nat → FieldType), CLok ci C T N ty ∧ k < N ∧ Cond.fieldLink own ix (T k).1 (T k).2.1 (T k).2.2.1 ∈ gtb ∧ (T k).2.2.2 = fin ∧ tp (ty k) ∧ (fin = true → (T k).1 = own)
def tpI (t : FieldType) : Prop := t = .int
def tpL (t : FieldType) : Prop := t = .long
def tpR (t : FieldType) : Prop := (∃ n, t = .object n) ∨ ∃ u, t = .array u
def avr (n : Nat) : AV → Prop
  | .inr (.inl q) => q ≤ n ∨ 1000000 ≤ q
  | _ => True
def avs (n : Nat) : List AV → Prop
  | [] => True
  | v :: t => avr n v ∧ avs n t
theorem cac_set {n ci k : Nat} {fs : List AV} {v : AV} (hc : cac n (obj ci fs)) (hv : avk n v) : cac n (obj ci (fs.set k v)) := by
  intro j w hj
  rw [List.getElem?_set] at hj
  split at hj
  · split at hj
    · cases hj; exact hv
    · cases hj
  · exact hc j w hj
theorem ce_obj_set (cA ad : Nat → Nat) (q ci k : Nat) (fs : List AV) (v : AV) : ce cA ad q (obj ci (fs.set k v)) = .inr (ci, (fs.map (cv ad)).set k (cv ad v)) := by
  simp only [ce, List.map_set]
theorem i32_nat (n : Nat) : Int32.ofInt (n : Int) = Int32.ofNat n := by
  first | rfl | exact Int32.ofInt_eq_ofNat | simp
theorem cv_ext {n : Nat} {ad ad' : Nat → Nat} (he : ∀ k, k ≤ n ∨ 1000000 ≤ k → ad' k = ad k) {v : AV} (hv : avr n v) : cv ad' v = cv ad v := by
  match v, hv with
  | .inl (.inl z), _ => rfl
  | .inl (.inr z), _ => rfl
  | .inr (.inl q), hv => unfold cv; dsimp only; rw [he q hv]
  | .inr (.inr _), _ => rfl
theorem avk_avr {n : Nat} {v : AV} (h : avk n v) : avr n v := by
  match v, h with
  | .inl (.inl z), _ => trivial
  | .inl (.inr z), _ => trivial
  | .inr (.inl q), h => exact h
  | .inr (.inr _), _ => trivial
theorem cvs_ext {n : Nat} {ad ad' : Nat → Nat} (he : ∀ k, k ≤ n ∨ 1000000 ≤ k → ad' k = ad k) : ∀ {st : List AV}, avs n st → st.map (cv ad') = st.map (cv ad)
  | [], _ => rfl
  | v :: t, h => by rw [List.map_cons, List.map_cons, cv_ext he h.1, cvs_ext he h.2]
theorem lvm_ext {n : Nat} {ad ad' : Nat → Nat} (he : ∀ k, k ≤ n ∨ 1000000 ≤ k → ad' k = ad k) : ∀ {lv : List (Nat × AV)}, avs n (lv.map Prod.snd) → lvm ad' lv = lvm ad lv
  | [], _ => rfl
  | v :: t, h => by
    show (v.1, cv ad' v.2) :: lvm ad' t = (v.1, cv ad v.2) :: lvm ad t
    rw [cv_ext he h.1, lvm_ext he h.2]
theorem ce_ext {n : Nat} {cA cA' ad ad' : Nat → Nat} (he : ∀ k, k ≤ n ∨ 1000000 ≤ k → ad' k = ad k) {k : Nat} (hk : cA' k = cA k) {c : AC} (hc : cac n c) : ce cA' ad' k c = ce cA ad k c := by
  match c, hc with
  | .inl (kd, m, f), _ => unfold ce; dsimp only; rw [hk]
  | .inr (.inl (_, m, f)), hc =>
    unfold ce; dsimp only; rw [hk]
    have : (fun j => if f j = 0 then none else some (ad' (f j))) = fun j => if f j = 0 then none else some (ad (f j)) := by
      funext j; rw [he _ (hc.2 j)]
    rw [this]
  | .inr (.inr (ci, fs)), hc =>
    unfold ce; dsimp only
    have : fs.map (cv ad') = fs.map (cv ad) := by
      apply List.map_congr_left
      intro v hv
      obtain ⟨j, hj⟩ := List.getElem?_of_mem hv
      exact cv_ext he (avk_avr (hc j v hj))
    rw [this]
theorem cac_mono {n n' : Nat} (hn : n ≤ n') {c : AC} (hc : cac n c) : cac n' c := by
  match c, hc with
  | .inl (kd, m, f), hc => exact hc
  | .inr (.inl (_, m, f)), hc => exact ⟨hc.1, fun j => by rcases hc.2 j with z | z <;> omega⟩
  | .inr (.inr (ci, fs)), hc =>
    intro j v hj
    have := hc j v hj
    match v, this with
    | .inl (.inl z), z1 => exact z1
    | .inl (.inr z), z1 => exact z1
    | .inr (.inl q), z1 => rcases z1 with z1 | z1; exact Or.inl (by omega); exact Or.inr z1
    | .inr (.inr _), _ => trivial
theorem WFh_add {h : Hp} {c : AC} (hW : WFh h) (hc : cac (h.1 + 1) c) : WFh (hadd h c) := by
  refine ⟨fun k x hk => ?_, fun k a1 a2 => ?_⟩
  · by_cases he : k = h.1 + 1
    · subst he
      simp only [hadd, if_pos rfl] at hk
      cases hk
      exact ⟨by omega, Nat.le_refl _, hc⟩
    · simp only [hadd, if_neg he] at hk
      obtain ⟨z1, z2, z3⟩ := hW.1 k x hk
      exact ⟨z1, Nat.le_succ_of_le z2, cac_mono (Nat.le_succ _) z3⟩
  · by_cases he : k = h.1 + 1
    · subst he; exact ⟨c, by simp [hadd]⟩
    · obtain ⟨x, hx⟩ := hW.2 k a1 (by have : k ≤ h.1 + 1 := a2; omega)
      exact ⟨x, by simp [hadd, he, hx]⟩
theorem wsl_add {cA ad : Nat → Nat} {h : Hp} {c : AC} (hW : WFh h) (hlim : h.1 + 1 < 1000000) (q cB : Nat) (e : va_E) (he : ce (ups cA (h.1 + 1) cB) (ups ad (h.1 + 1) q) (h.1 + 1) c = e) : wsl cA ad h ++ [(q, e)] = wsl (ups cA (h.1 + 1) cB) (ups ad (h.1 + 1) q) (hadd h c) := by
  unfold wsl
  rw [show (hadd h c).1 = h.1 + 1 from rfl, List.range_succ, List.map_append]
  congr 1
  · apply List.map_congr_left
    intro k hk
    have hk : k < h.1 := List.mem_range.mp hk
    obtain ⟨x, hx⟩ := hW.2 (k + 1) (by omega) (by omega)
    have h1 : (hadd h c).2 (k + 1) = h.2 (k + 1) := by simp [hadd]; omega
    rw [h1, hx]
    have h2 : ups ad (h.1 + 1) q (k + 1) = ad (k + 1) := by simp [ups]; omega
    rw [h2]
    show _ = (ad (k + 1), ce _ _ _ x)
    rw [ce_ext (n := h.1) (cA := cA) (ad := ad) (fun j hj => by simp only [ups]; rw [if_neg (by omega)]) (by simp [ups]; omega) ((hW.1 _ _ hx).2.2)]
    rfl
  · have h1 : (hadd h c).2 (h.1 + 1) = some c := by simp [hadd]
    show [(q, e)] = [(_, _)]
    rw [h1]
    show _ = [(ups ad (h.1 + 1) q (h.1 + 1), ce _ _ _ c)]
    rw [he]
    simp [ups]
theorem WO_add {D : va_G} {cA ad : Nat → Nat} {base b t : Nat} {h : Hp} {s : State} {H H1 : Heap} {c : AC} (q cB : Nat) (hO : WO D cA ad base b t h s H) (hlim : h.1 + 1 < 1000000) (hc : cac (h.1 + 1) c) (ha : aok s cB c) (e : va_E) (he : ce (ups cA (h.1 + 1) cB) (ups ad (h.1 + 1) q) (h.1 + 1) c = e)
    (hP : va_P D vwCl (wsl cA ad h ++ [(q, e)]) H1) (hD : va_D (fun q => base ≤ q) (wsl cA ad h ++ [(q, e)])) : WO D (ups cA (h.1 + 1) cB) (ups ad (h.1 + 1) q) base b t (hadd h c) s H1 := by
  obtain ⟨o1, o2, o3, o4, o5, o6⟩ := hO
  rw [wsl_add o5 hlim q cB e he] at hP hD
  refine ⟨o1, fun k x hk => ?_, hP, hD, WFh_add o5 hc, fun k hk => ?_⟩
  · by_cases hq : k = h.1 + 1
    · subst hq
      simp only [hadd, if_pos rfl] at hk
      cases hk
      simpa [ups] using ha
    · simp only [hadd, if_neg hq] at hk
      simpa [ups, hq] using o2 k x hk
  · have hk : h.1 + 1 < k := hk
    simp only [ups]
    rw [if_neg (by omega)]
    exact o6 k (by omega)
theorem CT_add {L : Nat} {xs : Nat → Int32} {own : String} {cc : ByteArray} {nL : Nat} {ini : Bool} {d rc rs N : Nat} {h : Hp} {p : Program} {R : Room} {s : State} {m : MethodId} {args : Array Value} {meth : Method} {c : Code} {H H1 : Heap} {locs : List Loc} {cells slots TC TS n0 n1 : Nat} {D : va_G} {cA ad ad0 : Nat → Nat} {base b t : Nat} {x : AC} (q cB : Nat)
    (X : CT L xs own cc nL ini d (rc + 1) (rs + N) h p R s m args meth c H locs cells slots TC TS n0 n1 D cA ad ad0 base b t) (hO : WO D (ups cA (h.1 + 1) cB) (ups ad (h.1 + 1) q) base b t (hadd h x) s H1) (hS : va_S (fun q => base ≤ q) s.heap H1 locs) : CT L xs own cc nL ini d rc rs (hadd h x) p R s m args meth c H1 locs (cells + 1) (slots + N) TC TS n0 n1 D (ups cA (h.1 + 1) cB) (ups ad (h.1 + 1) q) ad0 base b t := by
  obtain ⟨x1, ⟨y1, y2, y3, y4, y5, y6, y7, y8, y9, y10⟩, x3, -, -⟩ := X
  refine ⟨x1, ⟨y1, y2, y3, y4, by omega, by omega, Nat.le_succ_of_le y7, by show h.1 + 1 + rc ≤ n1; omega, y9, fun k hk => ?_⟩, x3, hO, hS⟩
  simp only [ups]
  rw [if_neg (by omega)]
  exact y10 k hk
section
variable {L : Nat} {xs : Nat → Int32} {l : Launch} {own : String} {cc : ByteArray} {nL : Nat} {ini : Bool} {d : Nat} {Q : AV → Hp → Prop} {rc rs : Nat} {pc pc' : Nat} {lv lv' : List (Nat × AV)} {st : List AV} {h h' : Hp}
theorem j_getI {ix ci k q : Nat} {z : Int} (dg : decode cc pc = .ok (.getfield ix, 3)) (hp : pc + 3 = pc') (lk : FL own ix ci k) (e : getI h ci q k = some z) (kk : R32 z → J L xs l own cc nL ini d Q rc rs pc' lv (vi z :: st) h) : J L xs l own cc nL ini d Q rc rs pc lv (vr q :: st) h := by
  subst hp
  intro p en R s m args below meth c H locs cells slots TC TS n0 n1 D cA ad ad0 base b t ls Z X hl hR
  obtain ⟨fs, hq, hv⟩ := getI_inv e
  obtain ⟨C, T, N, ty, ⟨c1, c2, c3, c4⟩, hk, hlk⟩ := lk
  have O := X.2.2.2.1
  obtain ⟨h1, h2, h3⟩ := O.2.2.2.2.1.1 q _ hq
  have hz : R32 z := h3 k _ hv
  have hq0 : cv ad (vr q) = .ref (ad q) := if_neg (by omega)
  show W p l en R s m args below meth c H locs cells slots Z (F0 m pc ls (cv ad (vr q) :: st.map (cv ad)))
  rw [hq0]
  refine va_get (D := D) (ci := ci) (C := C) (T := T) (N := N) (fs := fs.map (cv ad)) (v := cv ad (vi z)) X.1.1 X.1.2.1 X.1.2.2.2.2.1 c2 X.1.2.2.2.1 O.1 O.2.2.1 (q - 1) (wsl_at O.2.2.2.2.1 hq) c1 k hk (X.1.2.2.2.2.1 _ hlk) (fun _ z => z) (by rw [List.getElem?_map, hv]; rfl) dg ?_
  exact kk hz _ _ _ _ _ _ _ _ _ _ _ _ _ _ _ _ _ _ _ _ _ _ _ _ _ _ X hl hR
theorem j_getL {ix ci k q : Nat} {z : Int} (dg : decode cc pc = .ok (.getfield ix, 3)) (hp : pc + 3 = pc') (lk : FL own ix ci k) (e : getL h ci q k = some z) (kk : R64 z → J L xs l own cc nL ini d Q rc rs pc' lv (vl z :: st) h) : J L xs l own cc nL ini d Q rc rs pc lv (vr q :: st) h := by
  subst hp
  intro p en R s m args below meth c H locs cells slots TC TS n0 n1 D cA ad ad0 base b t ls Z X hl hR
  obtain ⟨fs, hq, hv⟩ := getL_inv e
  obtain ⟨C, T, N, ty, ⟨c1, c2, c3, c4⟩, hk, hlk⟩ := lk
  have O := X.2.2.2.1
  obtain ⟨h1, h2, h3⟩ := O.2.2.2.2.1.1 q _ hq
  have hz : R64 z := h3 k _ hv
  have hq0 : cv ad (vr q) = .ref (ad q) := if_neg (by omega)
  show W p l en R s m args below meth c H locs cells slots Z (F0 m pc ls (cv ad (vr q) :: st.map (cv ad)))
  rw [hq0]
  refine va_get (D := D) (ci := ci) (C := C) (T := T) (N := N) (fs := fs.map (cv ad)) (v := cv ad (vl z)) X.1.1 X.1.2.1 X.1.2.2.2.2.1 c2 X.1.2.2.2.1 O.1 O.2.2.1 (q - 1) (wsl_at O.2.2.2.2.1 hq) c1 k hk (X.1.2.2.2.2.1 _ hlk) (fun _ z => z) (by rw [List.getElem?_map, hv]; rfl) dg ?_
  exact kk hz _ _ _ _ _ _ _ _ _ _ _ _ _ _ _ _ _ _ _ _ _ _ _ _ _ _ X hl hR
theorem j_getR {ix ci k q : Nat} {z : Nat} (dg : decode cc pc = .ok (.getfield ix, 3)) (hp : pc + 3 = pc') (lk : FL own ix ci k) (e : getR h ci q k = some z) (kk : (z ≤ h.1 ∨ 1000000 ≤ z) → J L xs l own cc nL ini d Q rc rs pc' lv (vr z :: st) h) : J L xs l own cc nL ini d Q rc rs pc lv (vr q :: st) h := by
  subst hp
  intro p en R s m args below meth c H locs cells slots TC TS n0 n1 D cA ad ad0 base b t ls Z X hl hR
  obtain ⟨fs, hq, hv⟩ := getR_inv e
  obtain ⟨C, T, N, ty, ⟨c1, c2, c3, c4⟩, hk, hlk⟩ := lk
  have O := X.2.2.2.1
  obtain ⟨h1, h2, h3⟩ := O.2.2.2.2.1.1 q _ hq
  have hz : (z ≤ h.1 ∨ 1000000 ≤ z) := h3 k _ hv
  have hq0 : cv ad (vr q) = .ref (ad q) := if_neg (by omega)
  show W p l en R s m args below meth c H locs cells slots Z (F0 m pc ls (cv ad (vr q) :: st.map (cv ad)))
  rw [hq0]
  refine va_get (D := D) (ci := ci) (C := C) (T := T) (N := N) (fs := fs.map (cv ad)) (v := cv ad (vr z)) X.1.1 X.1.2.1 X.1.2.2.2.2.1 c2 X.1.2.2.2.1 O.1 O.2.2.1 (q - 1) (wsl_at O.2.2.2.2.1 hq) c1 k hk (X.1.2.2.2.2.1 _ hlk) (fun _ z => z) (by rw [List.getElem?_map, hv]; rfl) dg ?_
  exact kk hz _ _ _ _ _ _ _ _ _ _ _ _ _ _ _ _ _ _ _ _ _ _ _ _ _ _ X hl hR
theorem j_putV {ix ci k q : Nat} {v : AV} {tp : FieldType → Prop} (dg : decode cc pc = .ok (.putfield ix, 3)) (hp : pc + 3 = pc') (lk : FP own ix ci k false tp) (hty : ∀ ty, tp ty → ∀ ad, narrow ty (cv ad v) = cv ad v ∧ fits ty (cv ad v) = true) (hv : avk h.1 v) (e : putV h ci q k v = some h') (kk : J L xs l own cc nL ini d Q rc rs pc' lv st h') : J L xs l own cc nL ini d Q rc rs pc lv (v :: vr q :: st) h := by
  subst hp
  intro p en R s m args below meth c H locs cells slots TC TS n0 n1 D cA ad ad0 base b t ls Z X hl hR
  obtain ⟨fs, hq, hlen, rfl⟩ := putV_inv e
  obtain ⟨C, T, N, ty, ⟨c1, c2, c3, c4⟩, hk, hlk, f2, f3, f4⟩ := lk
  have O := X.2.2.2.1
  obtain ⟨h1, h2, h3⟩ := O.2.2.2.2.1.1 q _ hq
  have hq0 : cv ad (vr q) = .ref (ad q) := if_neg (by omega)
  show W p l en R s m args below meth c H locs cells slots Z (F0 m pc ls (cv ad v :: cv ad (vr q) :: st.map (cv ad)))
  rw [hq0]
  refine va_put (D := D) (ci := ci) (C := C) (T := T) (N := N) (ty := ty k) (fs := fs.map (cv ad)) X.1.1 X.1.2.1 X.1.2.2.2.2.1 c2 ty c3 c4 X.1.2.2.2.1 O.1 O.2.2.1 O.2.2.2.1 X.2.2.2.2 (q - 1) (wsl_at O.2.2.2.2.1 hq) c1 k hk (X.1.2.2.2.2.1 _ hlk) (fun _ z => z) f2 (c3 k hk) (hty _ f3 ad).1 (hty _ f3 ad).2 (by rw [List.length_map]; exact hlen) dg (fun H1 locs1 hP1 hD1 hS1 => ?_)
  rw [← ce_obj_set cA ad q] at hP1 hD1
  exact kk _ _ _ _ _ _ _ _ _ _ _ _ _ _ _ _ _ _ _ _ _ _ _ _ _ _ (CT_put X rfl (WO_put _ O hq (cac_set h3 hv) trivial hP1 hD1) hS1) hl hR
theorem j_putF {ix ci k q : Nat} {v : AV} {tp : FieldType → Prop} (dg : decode cc pc = .ok (.putfield ix, 3)) (hp : pc + 3 = pc') (hini : ini = true) (lk : FP own ix ci k true tp) (hty : ∀ ty, tp ty → ∀ ad, narrow ty (cv ad v) = cv ad v ∧ fits ty (cv ad v) = true) (hv : avk h.1 v) (e : putV h ci q k v = some h') (kk : J L xs l own cc nL ini d Q rc rs pc' lv st h') : J L xs l own cc nL ini d Q rc rs pc lv (v :: vr q :: st) h := by
  subst hp
  intro p en R s m args below meth c H locs cells slots TC TS n0 n1 D cA ad ad0 base b t ls Z X hl hR
  obtain ⟨fs, hq, hlen, rfl⟩ := putV_inv e
  obtain ⟨C, T, N, ty, ⟨c1, c2, c3, c4⟩, hk, hlk, f2, f3, f4⟩ := lk
  have O := X.2.2.2.1
  obtain ⟨h1, h2, h3⟩ := O.2.2.2.2.1.1 q _ hq
  have hq0 : cv ad (vr q) = .ref (ad q) := if_neg (by omega)
  show W p l en R s m args below meth c H locs cells slots Z (F0 m pc ls (cv ad v :: cv ad (vr q) :: st.map (cv ad)))
  rw [hq0]
  refine va_putF (D := D) (ci := ci) (C := C) (T := T) (N := N) (ty := ty k) (fs := fs.map (cv ad)) X.1.1 X.1.2.1 X.1.2.2.2.2.1 c2 ty c3 c4 X.1.2.2.2.1 O.1 O.2.2.1 O.2.2.2.1 X.2.2.2.2 (q - 1) (wsl_at O.2.2.2.2.1 hq) c1 k hk (X.1.2.2.2.2.1 _ hlk) (fun _ z => z) f2 (X.1.2.2.2.2.2 hini) (f4 rfl) (c3 k hk) (hty _ f3 ad).1 (hty _ f3 ad).2 (by rw [List.length_map]; exact hlen) dg (fun H1 locs1 hP1 hD1 hS1 => ?_)
  rw [← ce_obj_set cA ad q] at hP1 hD1
  exact kk _ _ _ _ _ _ _ _ _ _ _ _ _ _ _ _ _ _ _ _ _ _ _ _ _ _ (CT_put X rfl (WO_put _ O hq (cac_set h3 hv) trivial hP1 hD1) hS1) hl hR
theorem tI {z : Int} : ∀ ty, tpI ty → ∀ ad, narrow ty (cv ad (vi z)) = cv ad (vi z) ∧ fits ty (cv ad (vi z)) = true := by
  intro ty h ad; cases h; exact ⟨rfl, rfl⟩
theorem tL {z : Int} : ∀ ty, tpL ty → ∀ ad, narrow ty (cv ad (vl z)) = cv ad (vl z) ∧ fits ty (cv ad (vl z)) = true := by
  intro ty h ad; cases h; exact ⟨rfl, rfl⟩
theorem tR {z : Nat} : ∀ ty, tpR ty → ∀ ad, narrow ty (cv ad (vr z)) = cv ad (vr z) ∧ fits ty (cv ad (vr z)) = true := by
  intro ty h ad
  by_cases hz : z = 0
  · subst hz; rcases h with ⟨n, rfl⟩ | ⟨u, rfl⟩ <;> exact ⟨rfl, rfl⟩
  · have h2 : cv ad (vr z) = .ref (ad z) := if_neg hz
    rw [h2]
    rcases h with ⟨n, rfl⟩ | ⟨u, rfl⟩ <;> exact ⟨rfl, rfl⟩
theorem aok_K {D : va_G} {s : State} {cA kd n : Nat} {f : Nat → Int} (hK : va_K D vwCl [] s) (ha : aok s cA (arr kd n f)) : va_K D vwCl [(cA, tyk kd)] s :=
  ⟨hK.1, fun k r hk => by
    match k, hk with
    | 0, hk => cases hk; exact ha.2
    | k + 1, hk => simp at hk⟩
theorem aok_Q {D : va_G} {s : State} {cA ci n : Nat} {f : Nat → Nat} (hK : va_K D vwCl [] s) (ha : aok s cA (rar ci n f)) : va_K D vwCl [(cA, .object (clN ci))] s :=
  ⟨hK.1, fun k r hk => by
    match k, hk with
    | 0, hk => cases hk; exact ha
    | k + 1, hk => simp at hk⟩
theorem vin_of {i : Int} {n : Nat} (h0 : 0 ≤ i) (h1 : i < n) (hn : n < 2147483648) : vp_in (Int32.ofInt i) n ∧ (Int32.ofInt i).toNatClampNeg = i.toNat ∧ R32 i := by
  have hr : R32 i := ⟨by omega, by omega⟩
  exact ⟨vp_in_iff.mpr (by rw [i32_to hr]; exact ⟨h0, h1⟩), i32_clamp hr, hr⟩
theorem j_iald {q : Nat} {i z : Int} (dg : decode cc pc = .ok (.iaload, 1)) (hp : pc + 1 = pc') (e : ald h 0 q i = some z) (kk : R32 z → J L xs l own cc nL ini d Q rc rs pc' lv (vi z :: st) h) : J L xs l own cc nL ini d Q rc rs pc lv (vi i :: vr q :: st) h := by
  subst hp
  intro p en R s m args below meth c H locs cells slots TC TS n0 n1 D cA ad ad0 base b t ls Z X hl hR
  obtain ⟨n, f, hq, hi0, hi1, rfl⟩ := ald_inv e
  have O := X.2.2.2.1
  obtain ⟨h1, h2, h3⟩ := O.2.2.2.2.1.1 q _ hq
  have hz : R32 (f i.toNat) := h3.2 i.toNat
  obtain ⟨v1, v2, v3⟩ := vin_of hi0 hi1 h3.1
  have hq0 : cv ad (vr q) = .ref (ad q) := if_neg (by omega)
  show W p l en R s m args below meth c H locs cells slots Z (F0 m pc ls (cv ad (vi i) :: cv ad (vr q) :: st.map (cv ad)))
  rw [hq0]
  refine va_iald (D := D) (n := n) (f := fun j => Int32.ofInt (f j)) X.1.1 X.1.2.1 (aok_K O.1 (O.2.1 q _ hq)) O.2.2.1 (q - 1) 0 (wsl_at O.2.2.2.2.1 hq) rfl v1 dg ?_
  rw [v2]
  exact kk hz _ _ _ _ _ _ _ _ _ _ _ _ _ _ _ _ _ _ _ _ _ _ _ _ _ _ X hl hR
theorem j_lald {q : Nat} {i z : Int} (dg : decode cc pc = .ok (.laload, 1)) (hp : pc + 1 = pc') (e : ald h 1 q i = some z) (kk : R64 z → J L xs l own cc nL ini d Q rc rs pc' lv (vl z :: st) h) : J L xs l own cc nL ini d Q rc rs pc lv (vi i :: vr q :: st) h := by
  subst hp
  intro p en R s m args below meth c H locs cells slots TC TS n0 n1 D cA ad ad0 base b t ls Z X hl hR
  obtain ⟨n, f, hq, hi0, hi1, rfl⟩ := ald_inv e
  have O := X.2.2.2.1
  obtain ⟨h1, h2, h3⟩ := O.2.2.2.2.1.1 q _ hq
  have hz : R64 (f i.toNat) := h3.2 i.toNat
  obtain ⟨v1, v2, v3⟩ := vin_of hi0 hi1 h3.1
  have hq0 : cv ad (vr q) = .ref (ad q) := if_neg (by omega)
  show W p l en R s m args below meth c H locs cells slots Z (F0 m pc ls (cv ad (vi i) :: cv ad (vr q) :: st.map (cv ad)))
  rw [hq0]
  refine va_lald (D := D) (n := n) (f := fun j => Int64.ofInt (f j)) X.1.1 X.1.2.1 (aok_K O.1 (O.2.1 q _ hq)) O.2.2.1 (q - 1) 0 (wsl_at O.2.2.2.2.1 hq) rfl v1 dg ?_
  rw [v2]
  exact kk hz _ _ _ _ _ _ _ _ _ _ _ _ _ _ _ _ _ _ _ _ _ _ _ _ _ _ X hl hR
theorem j_zald {q : Nat} {i z : Int} (dg : decode cc pc = .ok (.baload, 1)) (hp : pc + 1 = pc') (e : ald h 2 q i = some z) (kk : R32 z → J L xs l own cc nL ini d Q rc rs pc' lv (vi z :: st) h) : J L xs l own cc nL ini d Q rc rs pc lv (vi i :: vr q :: st) h := by
  subst hp
  intro p en R s m args below meth c H locs cells slots TC TS n0 n1 D cA ad ad0 base b t ls Z X hl hR
  obtain ⟨n, f, hq, hi0, hi1, rfl⟩ := ald_inv e
  have O := X.2.2.2.1
  obtain ⟨h1, h2, h3⟩ := O.2.2.2.2.1.1 q _ hq
  have hz : R32 (f i.toNat) := h3.2 i.toNat
  obtain ⟨v1, v2, v3⟩ := vin_of hi0 hi1 h3.1
  have hq0 : cv ad (vr q) = .ref (ad q) := if_neg (by omega)
  show W p l en R s m args below meth c H locs cells slots Z (F0 m pc ls (cv ad (vi i) :: cv ad (vr q) :: st.map (cv ad)))
  rw [hq0]
  refine va_zald (D := D) (n := n) (f := fun j => Int32.ofInt (f j)) X.1.1 X.1.2.1 (aok_K O.1 (O.2.1 q _ hq)) O.2.2.1 (q - 1) 0 (wsl_at O.2.2.2.2.1 hq) rfl v1 dg ?_
  rw [v2]
  exact kk hz _ _ _ _ _ _ _ _ _ _ _ _ _ _ _ _ _ _ _ _ _ _ _ _ _ _ X hl hR
theorem j_iast {q : Nat} {i z : Int} (dg : decode cc pc = .ok (.iastore, 1)) (hp : pc + 1 = pc') (hz : R32 z) (e : ast h 0 q i z = some h') (kk : J L xs l own cc nL ini d Q rc rs pc' lv st h') : J L xs l own cc nL ini d Q rc rs pc lv (vi z :: vi i :: vr q :: st) h := by
  subst hp
  intro p en R s m args below meth c H locs cells slots TC TS n0 n1 D cA ad ad0 base b t ls Z X hl hR
  obtain ⟨n, f, hq, hi0, hi1, rfl⟩ := ast_inv e
  have O := X.2.2.2.1
  obtain ⟨h1, h2, h3⟩ := O.2.2.2.2.1.1 q _ hq
  obtain ⟨v1, v2, v3⟩ := vin_of hi0 hi1 h3.1
  have hq0 : cv ad (vr q) = .ref (ad q) := if_neg (by omega)
  show W p l en R s m args below meth c H locs cells slots Z (F0 m pc ls (cv ad (vi z) :: cv ad (vi i) :: cv ad (vr q) :: st.map (cv ad)))
  rw [hq0]
  refine va_iast (D := D) (n := n) (f := fun j => Int32.ofInt (f j)) X.1.1 X.1.2.1 (aok_K O.1 (O.2.1 q _ hq)) O.2.2.1 O.2.2.2.1 X.2.2.2.2 (q - 1) 0 (wsl_at O.2.2.2.2.1 hq) rfl v1 dg (fun H1 locs1 hP1 hD1 hS1 => ?_)
  rw [v2] at hP1 hD1
  have hf : upd (fun j => Int32.ofInt (f j)) i.toNat (Int32.ofInt z) = fun j => Int32.ofInt (ups f i.toNat z j) := by
    funext j; simp only [upd, ups]; split <;> rfl
  rw [hf] at hP1 hD1
  refine kk _ _ _ _ _ _ _ _ _ _ _ _ _ _ _ _ _ _ _ _ _ _ _ _ _ _ (CT_put X rfl (WO_put (arr 0 n (ups f i.toNat z)) O hq ⟨h3.1, fun j => ?_⟩ (have := O.2.1 q _ hq; this) hP1 hD1) hS1) hl hR
  by_cases hj : j = i.toNat
  · simp only [ups, hj, if_pos]; exact hz
  · simp only [ups, if_neg hj]; exact h3.2 j
theorem j_last {q : Nat} {i z : Int} (dg : decode cc pc = .ok (.lastore, 1)) (hp : pc + 1 = pc') (hz : R64 z) (e : ast h 1 q i z = some h') (kk : J L xs l own cc nL ini d Q rc rs pc' lv st h') : J L xs l own cc nL ini d Q rc rs pc lv (vl z :: vi i :: vr q :: st) h := by
  subst hp
  intro p en R s m args below meth c H locs cells slots TC TS n0 n1 D cA ad ad0 base b t ls Z X hl hR
  obtain ⟨n, f, hq, hi0, hi1, rfl⟩ := ast_inv e
  have O := X.2.2.2.1
  obtain ⟨h1, h2, h3⟩ := O.2.2.2.2.1.1 q _ hq
  obtain ⟨v1, v2, v3⟩ := vin_of hi0 hi1 h3.1
  have hq0 : cv ad (vr q) = .ref (ad q) := if_neg (by omega)
  show W p l en R s m args below meth c H locs cells slots Z (F0 m pc ls (cv ad (vl z) :: cv ad (vi i) :: cv ad (vr q) :: st.map (cv ad)))
  rw [hq0]
  refine va_last (D := D) (n := n) (f := fun j => Int64.ofInt (f j)) X.1.1 X.1.2.1 (aok_K O.1 (O.2.1 q _ hq)) O.2.2.1 O.2.2.2.1 X.2.2.2.2 (q - 1) 0 (wsl_at O.2.2.2.2.1 hq) rfl v1 dg (fun H1 locs1 hP1 hD1 hS1 => ?_)
  rw [v2] at hP1 hD1
  have hf : vp_updL (fun j => Int64.ofInt (f j)) i.toNat (Int64.ofInt z) = fun j => Int64.ofInt (ups f i.toNat z j) := by
    funext j; simp only [vp_updL, ups]; split <;> rfl
  rw [hf] at hP1 hD1
  refine kk _ _ _ _ _ _ _ _ _ _ _ _ _ _ _ _ _ _ _ _ _ _ _ _ _ _ (CT_put X rfl (WO_put (arr 1 n (ups f i.toNat z)) O hq ⟨h3.1, fun j => ?_⟩ (have := O.2.1 q _ hq; this) hP1 hD1) hS1) hl hR
  by_cases hj : j = i.toNat
  · simp only [ups, hj, if_pos]; exact hz
  · simp only [ups, if_neg hj]; exact h3.2 j
theorem j_zast {q : Nat} {i z : Int} (dg : decode cc pc = .ok (.bastore, 1)) (hp : pc + 1 = pc') (hz : R32 z) (hb : z = 0 ∨ z = 1) (e : ast h 2 q i z = some h') (kk : J L xs l own cc nL ini d Q rc rs pc' lv st h') : J L xs l own cc nL ini d Q rc rs pc lv (vi z :: vi i :: vr q :: st) h := by
  subst hp
  intro p en R s m args below meth c H locs cells slots TC TS n0 n1 D cA ad ad0 base b t ls Z X hl hR
  obtain ⟨n, f, hq, hi0, hi1, rfl⟩ := ast_inv e
  have O := X.2.2.2.1
  obtain ⟨h1, h2, h3⟩ := O.2.2.2.2.1.1 q _ hq
  obtain ⟨v1, v2, v3⟩ := vin_of hi0 hi1 h3.1
  have hq0 : cv ad (vr q) = .ref (ad q) := if_neg (by omega)
  show W p l en R s m args below meth c H locs cells slots Z (F0 m pc ls (cv ad (vi z) :: cv ad (vi i) :: cv ad (vr q) :: st.map (cv ad)))
  rw [hq0]
  refine va_zast (D := D) (n := n) (f := fun j => Int32.ofInt (f j)) X.1.1 X.1.2.1 (aok_K O.1 (O.2.1 q _ hq)) O.2.2.1 O.2.2.2.1 X.2.2.2.2 (q - 1) 0 (wsl_at O.2.2.2.2.1 hq) rfl v1 dg (fun H1 locs1 hP1 hD1 hS1 => ?_)
  have hnar : vp_nar .boolean (Int32.ofInt z) = Int32.ofInt z := by rcases hb with rfl | rfl <;> decide +kernel
  rw [hnar] at hP1 hD1
  rw [v2] at hP1 hD1
  have hf : upd (fun j => Int32.ofInt (f j)) i.toNat (Int32.ofInt z) = fun j => Int32.ofInt (ups f i.toNat z j) := by
    funext j; simp only [upd, ups]; split <;> rfl
  rw [hf] at hP1 hD1
  refine kk _ _ _ _ _ _ _ _ _ _ _ _ _ _ _ _ _ _ _ _ _ _ _ _ _ _ (CT_put X rfl (WO_put (arr 2 n (ups f i.toNat z)) O hq ⟨h3.1, fun j => ?_⟩ (have := O.2.1 q _ hq; this) hP1 hD1) hS1) hl hR
  by_cases hj : j = i.toNat
  · simp only [ups, hj, if_pos]; exact hz
  · simp only [ups, if_neg hj]; exact h3.2 j
theorem j_alen {q kd : Nat} {z : Int} (dg : decode cc pc = .ok (.arraylength, 1)) (hp : pc + 1 = pc') (e : aln h kd q = some z) (kk : R32 z → J L xs l own cc nL ini d Q rc rs pc' lv (vi z :: st) h) : J L xs l own cc nL ini d Q rc rs pc lv (vr q :: st) h := by
  subst hp
  intro p en R s m args below meth c H locs cells slots TC TS n0 n1 D cA ad ad0 base b t ls Z X hl hR
  obtain ⟨n, f, hq, rfl⟩ := aln_inv e
  have O := X.2.2.2.1
  obtain ⟨h1, h2, h3⟩ := O.2.2.2.2.1.1 q _ hq
  have hz : R32 (n : Int) := ⟨by omega, by have := h3.1; omega⟩
  have hq0 : cv ad (vr q) = .ref (ad q) := if_neg (by omega)
  show W p l en R s m args below meth c H locs cells slots Z (F0 m pc ls (cv ad (vr q) :: st.map (cv ad)))
  rw [hq0]
  refine va_alen (D := D) (v := Int32.ofInt n) X.1.1 X.1.2.1 (aok_K O.1 (O.2.1 q _ hq)) O.2.2.1 (q - 1) 0 (wsl_at O.2.2.2.2.1 hq) rfl (i32_nat n).symm dg ?_
  exact kk hz _ _ _ _ _ _ _ _ _ _ _ _ _ _ _ _ _ _ _ _ _ _ _ _ _ _ X hl hR
theorem j_rld {q ci : Nat} {i : Int} {z : Nat} (dg : decode cc pc = .ok (.aaload, 1)) (hp : pc + 1 = pc') (e : rld h ci q i = some z) (kk : (z ≤ h.1 ∨ 1000000 ≤ z) → J L xs l own cc nL ini d Q rc rs pc' lv (vr z :: st) h) : J L xs l own cc nL ini d Q rc rs pc lv (vi i :: vr q :: st) h := by
  subst hp
  intro p en R s m args below meth c H locs cells slots TC TS n0 n1 D cA ad ad0 base b t ls Z X hl hR
  obtain ⟨n, f, hq, hi0, hi1, rfl⟩ := rld_inv e
  have O := X.2.2.2.1
  obtain ⟨h1, h2, h3⟩ := O.2.2.2.2.1.1 q _ hq
  obtain ⟨v1, v2, v3⟩ := vin_of hi0 hi1 h3.1
  have hq0 : cv ad (vr q) = .ref (ad q) := if_neg (by omega)
  show W p l en R s m args below meth c H locs cells slots Z (F0 m pc ls (cv ad (vi i) :: cv ad (vr q) :: st.map (cv ad)))
  rw [hq0]
  refine va_aldq (D := D) (n := n) (C := clN ci) (f := fun j => if f j = 0 then none else some (ad (f j))) X.1.1 X.1.2.1 (aok_Q O.1 (O.2.1 q _ hq)) O.2.2.1 (q - 1) 0 (wsl_at O.2.2.2.2.1 hq) rfl v1 dg ?_
  rw [v2]
  have hv : va_rf (if f i.toNat = 0 then none else some (ad (f i.toNat))) = cv ad (vr (f i.toNat)) := by
    by_cases hz : f i.toNat = 0
    · rw [if_pos hz, hz]; rfl
    · rw [if_neg hz]; exact (if_neg hz).symm
  rw [hv]
  exact kk (h3.2 i.toNat) _ _ _ _ _ _ _ _ _ _ _ _ _ _ _ _ _ _ _ _ _ _ _ _ _ _ X hl hR
theorem j_rst {q ci w : Nat} {i : Int} (hci : ∃ r, vwCl[ci]? = some r) (dg : decode cc pc = .ok (.aastore, 1)) (hp : pc + 1 = pc') (e : rst h ci q i w = some h') (kk : J L xs l own cc nL ini d Q rc rs pc' lv st h') : J L xs l own cc nL ini d Q rc rs pc lv (vr w :: vi i :: vr q :: st) h := by
  subst hp
  intro p en R s m args below meth c H locs cells slots TC TS n0 n1 D cA ad ad0 base b t ls Z X hl hR
  obtain ⟨n, f, fs, hq, hw, hi0, hi1, rfl⟩ := rst_inv e
  obtain ⟨r, hr⟩ := hci
  have O := X.2.2.2.1
  obtain ⟨h1, h2, h3⟩ := O.2.2.2.2.1.1 q _ hq
  obtain ⟨w1, w2, w3⟩ := O.2.2.2.2.1.1 w _ hw
  obtain ⟨v1, v2, v3⟩ := vin_of hi0 hi1 h3.1
  have hq0 : cv ad (vr q) = .ref (ad q) := if_neg (by omega)
  have hw0 : cv ad (vr w) = .ref (ad w) := if_neg (by omega)
  have hcn : clN ci = r.1 := by simp only [clN, hr]
  have hKq := aok_Q O.1 (O.2.1 q _ hq)
  rw [hcn] at hKq
  show W p l en R s m args below meth c H locs cells slots Z (F0 m pc ls (cv ad (vr w) :: cv ad (vi i) :: cv ad (vr q) :: st.map (cv ad)))
  rw [hq0, hw0]
  refine va_astq (D := D) (n := n) (r := r) (ci := ci) (vs := fs.map (cv ad)) (f := fun j => if f j = 0 then none else some (ad (f j))) X.1.1 X.1.2.1 hKq O.2.2.1 O.2.2.2.1 X.2.2.2.2 (q - 1) 0 (w - 1) (wsl_at O.2.2.2.2.1 hq) rfl (wsl_at O.2.2.2.2.1 hw) hr v1 dg (fun H1 locs1 hP1 hD1 hS1 => ?_)
  rw [v2] at hP1 hD1
  have hf : va_up (fun j => if f j = 0 then none else some (ad (f j))) i.toNat (some (ad w)) = fun j => if ups f i.toNat w j = 0 then none else some (ad (ups f i.toNat w j)) := by
    funext j; simp only [va_up, ups]
    by_cases hj : j = i.toNat
    · subst hj; simp; omega
    · simp [hj]
  rw [hf] at hP1 hD1
  refine kk _ _ _ _ _ _ _ _ _ _ _ _ _ _ _ _ _ _ _ _ _ _ _ _ _ _ (CT_put X rfl (WO_put (rar ci n (ups f i.toNat w)) O hq ⟨h3.1, fun j => ?_⟩ (have := O.2.1 q _ hq; this) hP1 hD1) hS1) hl hR
  by_cases hj : j = i.toNat
  · simp only [ups, hj, if_pos]; exact Or.inl w2
  · simp only [ups, if_neg hj]; exact h3.2 j
theorem avs_of {n : Nat} : ∀ {fs : List AV}, (∀ (k : Nat) (v : AV), fs[k]? = some v → avk 0 v) → avs n fs
  | [], _ => trivial
  | v :: fs, z => ⟨by
      have z0 := z 0 v rfl
      match v, z0 with
      | .inl (.inl _), _ => trivial
      | .inl (.inr _), _ => trivial
      | .inr (.inl q), z1 => rcases z1 with z1 | z1; exact Or.inl (by omega); exact Or.inr z1
      | .inr (.inr _), _ => trivial, avs_of (fun k w hk => z (k + 1) w hk)⟩
def NL (own : String) (ix ci N : Nat) (fs : List AV) : Prop := ∃ (C : String) (T : u_T) (ty : Nat → FieldType), CLok ci C T N ty ∧ Cond.classLink own ix C ∈ gtb ∧ Cond.instantiable C N ∈ gtb ∧ Cond.initialized C ∈ gtb ∧ (∀ ad j, j < N → defaultValue (ty j) = vp_V (fs.map (cv ad)) j) ∧ ∀ (k : Nat) (v : AV), fs[k]? = some v → avk 0 v
theorem ups_eq (ad : Nat → Nat) (n q : Nat) (hn : n + 1 < 1000000) : ∀ k, k ≤ n ∨ 1000000 ≤ k → ups ad (n + 1) q k = ad k := fun k hk => by simp only [ups]; rw [if_neg (by omega)]
theorem j_new {ix ci N : Nat} {fs : List AV} (dg : decode cc pc = .ok (.new ix, 3)) (hp : pc + 3 = pc') (lk : NL own ix ci N fs) (hs : avs h.1 st) (hv : avs h.1 (lv.map Prod.snd)) (kk : J L xs l own cc nL ini d Q rc rs pc' lv (vr (h.1 + 1) :: st) (hadd h (obj ci fs))) : J L xs l own cc nL ini d Q (rc + 1) (rs + N) pc lv st h := by
  subst hp
  intro p en R s m args below meth c H locs cells slots TC TS n0 n1 D cA ad ad0 base b t ls Z X hl hR
  obtain ⟨C, T, ty, ⟨c1, c2, c3, c4⟩, n1', n2', n3', n4', n5'⟩ := lk
  have O := X.2.2.2.1
  obtain ⟨y1, y2, y3, y4, y5, y6, y7, y8, y9, y10⟩ := X.2.1
  refine va_new (D := D) (ci := ci) (C := C) (T := T) (N := N) (fs := fs.map (cv ad)) X.1.1 X.1.2.1 X.1.2.2.2.2.1 c2 ty c3 X.1.2.2.2.1 (X.1.2.2.2.2.1 _ n1') (X.1.2.2.2.2.1 _ n2') (X.1.2.2.2.2.1 _ n3') O.1 O.2.2.1 O.2.2.2.1 X.2.2.2.2 (fun q hq => Nat.le_trans X.2.2.1.2.2.1 hq) c1 (n4' ad) (by omega) (by omega) dg (fun q H1 hP1 hD1 hS1 => ?_)
  have hlim : h.1 + 1 < 1000000 := by omega
  have hfs : avs h.1 fs := avs_of n5'
  have O2 := WO_add (c := obj ci fs) q 0 O hlim (cac_mono (Nat.zero_le _) n5') trivial (.inr (ci, fs.map (cv ad))) (by simp only [ce]; rw [cvs_ext (ups_eq ad h.1 q hlim) hfs]) hP1 hD1
  have k2 := kk _ _ _ _ _ _ _ _ _ _ _ _ _ _ _ _ _ _ _ _ _ _ _ _ _ _ (CT_add q 0 X O2 hS1) (by rw [lvm_ext (ups_eq ad h.1 q hlim) hv]; exact hl) hR
  rw [List.map_cons, cvs_ext (ups_eq ad h.1 q hlim) hs] at k2
  have h3 : cv (ups ad (h.1 + 1) q) (vr (h.1 + 1)) = .ref q := by
    show (if h.1 + 1 = 0 then Value.null else Value.ref (ups ad (h.1 + 1) q (h.1 + 1))) = _
    rw [if_neg (by omega)]; simp [ups]
  rw [h3] at k2
  exact k2
theorem j_newI {z : Int} {N : Nat} (hN : z = (N : Int)) (hN2 : N < 100000) (dg : decode cc pc = .ok (.newarray .int, 2)) (hp : pc + 2 = pc') (hw : Cond.arrayClass .int ∈ gtb) (hs : avs h.1 st) (hv : avs h.1 (lv.map Prod.snd)) (kk : J L xs l own cc nL ini d Q rc rs pc' lv (vr (h.1 + 1) :: st) (hadd h (arr 0 N (fun _ => 0)))) : J L xs l own cc nL ini d Q (rc + 1) (rs + N) pc lv (vi z :: st) h := by
  subst hp
  subst hN
  intro p en R s m args below meth c H locs cells slots TC TS n0 n1 D cA ad ad0 base b t ls Z X hl hR
  have O := X.2.2.2.1
  obtain ⟨y1, y2, y3, y4, y5, y6, y7, y8, y9, y10⟩ := X.2.1
  have hr : R32 (N : Int) := ⟨by omega, by omega⟩
  have hb4 : componentBytes .int ≤ 8 := by decide
  refine va_newa (D := D) (atype := .int) (ty := .int) (N' := N) (a0 := (N, .inl fun _ => 0)) X.1.1 X.1.2.1 (X.1.2.2.2.2.1 _ hw) rfl O.1 O.2.2.1 O.2.2.2.1 X.2.2.2.2 (fun q hq => Nat.le_trans X.2.2.1.2.2.1 hq) (fun _ => rfl) (by rw [show (0 : Int32) = Int32.ofInt 0 from rfl, i32_lt hr z32]; omega) (by rw [i32_clamp hr]; rfl) (Nat.le_trans (Nat.mul_le_mul (Nat.le_of_lt hN2) hb4) (by decide)) (by omega) (by omega) dg (fun q cB H1 hK1 hP1 hD1 hS1 => ?_)
  have hlim : h.1 + 1 < 1000000 := by omega
  have O2 := WO_add (c := arr 0 N (fun _ => 0)) q cB O hlim ⟨by omega, fun _ => (show _ ∧ _ from ⟨by show (_ : Int) ≤ 0; decide, by show (0 : Int) ≤ _; decide⟩)⟩ ⟨by decide, hK1.2 0 (cB, .int) rfl⟩ (.inl (cB, N, .inl fun _ => 0)) (by simp [ce, ups]) hP1 hD1
  have k2 := kk _ _ _ _ _ _ _ _ _ _ _ _ _ _ _ _ _ _ _ _ _ _ _ _ _ _ (CT_add q cB X O2 hS1) (by rw [lvm_ext (ups_eq ad h.1 q hlim) hv]; exact hl) hR
  rw [List.map_cons, cvs_ext (ups_eq ad h.1 q hlim) hs] at k2
  have h3 : cv (ups ad (h.1 + 1) q) (vr (h.1 + 1)) = .ref q := by
    show (if h.1 + 1 = 0 then Value.null else Value.ref (ups ad (h.1 + 1) q (h.1 + 1))) = _
    rw [if_neg (by omega)]; simp [ups]
  rw [h3] at k2
  exact k2
theorem j_newL {z : Int} {N : Nat} (hN : z = (N : Int)) (hN2 : N < 100000) (dg : decode cc pc = .ok (.newarray .long, 2)) (hp : pc + 2 = pc') (hw : Cond.arrayClass .long ∈ gtb) (hs : avs h.1 st) (hv : avs h.1 (lv.map Prod.snd)) (kk : J L xs l own cc nL ini d Q rc rs pc' lv (vr (h.1 + 1) :: st) (hadd h (arr 1 N (fun _ => 0)))) : J L xs l own cc nL ini d Q (rc + 1) (rs + N) pc lv (vi z :: st) h := by
  subst hp
  subst hN
  intro p en R s m args below meth c H locs cells slots TC TS n0 n1 D cA ad ad0 base b t ls Z X hl hR
  have O := X.2.2.2.1
  obtain ⟨y1, y2, y3, y4, y5, y6, y7, y8, y9, y10⟩ := X.2.1
  have hr : R32 (N : Int) := ⟨by omega, by omega⟩
  have hb4 : componentBytes .long ≤ 8 := by decide
  refine va_newa (D := D) (atype := .long) (ty := .long) (N' := N) (a0 := (N, .inr (.inl fun _ => 0))) X.1.1 X.1.2.1 (X.1.2.2.2.2.1 _ hw) rfl O.1 O.2.2.1 O.2.2.2.1 X.2.2.2.2 (fun q hq => Nat.le_trans X.2.2.1.2.2.1 hq) (fun _ => rfl) (by rw [show (0 : Int32) = Int32.ofInt 0 from rfl, i32_lt hr z32]; omega) (by rw [i32_clamp hr]; rfl) (Nat.le_trans (Nat.mul_le_mul (Nat.le_of_lt hN2) hb4) (by decide)) (by omega) (by omega) dg (fun q cB H1 hK1 hP1 hD1 hS1 => ?_)
  have hlim : h.1 + 1 < 1000000 := by omega
  have O2 := WO_add (c := arr 1 N (fun _ => 0)) q cB O hlim ⟨by omega, fun _ => (show _ ∧ _ from ⟨by show (_ : Int) ≤ 0; decide, by show (0 : Int) ≤ _; decide⟩)⟩ ⟨by decide, hK1.2 0 (cB, .long) rfl⟩ (.inl (cB, N, .inr (.inl fun _ => 0))) (by simp [ce, ups]) hP1 hD1
  have k2 := kk _ _ _ _ _ _ _ _ _ _ _ _ _ _ _ _ _ _ _ _ _ _ _ _ _ _ (CT_add q cB X O2 hS1) (by rw [lvm_ext (ups_eq ad h.1 q hlim) hv]; exact hl) hR
  rw [List.map_cons, cvs_ext (ups_eq ad h.1 q hlim) hs] at k2
  have h3 : cv (ups ad (h.1 + 1) q) (vr (h.1 + 1)) = .ref q := by
    show (if h.1 + 1 = 0 then Value.null else Value.ref (ups ad (h.1 + 1) q (h.1 + 1))) = _
    rw [if_neg (by omega)]; simp [ups]
  rw [h3] at k2
  exact k2
theorem j_newZ {z : Int} {N : Nat} (hN : z = (N : Int)) (hN2 : N < 100000) (dg : decode cc pc = .ok (.newarray .boolean, 2)) (hp : pc + 2 = pc') (hw : Cond.arrayClass .boolean ∈ gtb) (hs : avs h.1 st) (hv : avs h.1 (lv.map Prod.snd)) (kk : J L xs l own cc nL ini d Q rc rs pc' lv (vr (h.1 + 1) :: st) (hadd h (arr 2 N (fun _ => 0)))) : J L xs l own cc nL ini d Q (rc + 1) (rs + N) pc lv (vi z :: st) h := by
  subst hp
  subst hN
  intro p en R s m args below meth c H locs cells slots TC TS n0 n1 D cA ad ad0 base b t ls Z X hl hR
  have O := X.2.2.2.1
  obtain ⟨y1, y2, y3, y4, y5, y6, y7, y8, y9, y10⟩ := X.2.1
  have hr : R32 (N : Int) := ⟨by omega, by omega⟩
  have hb4 : componentBytes .boolean ≤ 8 := by decide
  refine va_newa (D := D) (atype := .boolean) (ty := .boolean) (N' := N) (a0 := (N, .inl fun _ => 0)) X.1.1 X.1.2.1 (X.1.2.2.2.2.1 _ hw) rfl O.1 O.2.2.1 O.2.2.2.1 X.2.2.2.2 (fun q hq => Nat.le_trans X.2.2.1.2.2.1 hq) (fun _ => rfl) (by rw [show (0 : Int32) = Int32.ofInt 0 from rfl, i32_lt hr z32]; omega) (by rw [i32_clamp hr]; rfl) (Nat.le_trans (Nat.mul_le_mul (Nat.le_of_lt hN2) hb4) (by decide)) (by omega) (by omega) dg (fun q cB H1 hK1 hP1 hD1 hS1 => ?_)
  have hlim : h.1 + 1 < 1000000 := by omega
  have O2 := WO_add (c := arr 2 N (fun _ => 0)) q cB O hlim ⟨by omega, fun _ => (show _ ∧ _ from ⟨by show (_ : Int) ≤ 0; decide, by show (0 : Int) ≤ _; decide⟩)⟩ ⟨by decide, hK1.2 0 (cB, .boolean) rfl⟩ (.inl (cB, N, .inl fun _ => 0)) (by simp [ce, ups]) hP1 hD1
  have k2 := kk _ _ _ _ _ _ _ _ _ _ _ _ _ _ _ _ _ _ _ _ _ _ _ _ _ _ (CT_add q cB X O2 hS1) (by rw [lvm_ext (ups_eq ad h.1 q hlim) hv]; exact hl) hR
  rw [List.map_cons, cvs_ext (ups_eq ad h.1 q hlim) hs] at k2
  have h3 : cv (ups ad (h.1 + 1) q) (vr (h.1 + 1)) = .ref q := by
    show (if h.1 + 1 = 0 then Value.null else Value.ref (ups ad (h.1 + 1) q (h.1 + 1))) = _
    rw [if_neg (by omega)]; simp [ups]
  rw [h3] at k2
  exact k2
theorem j_newR {z : Int} {N ix ci : Nat} (hN : z = (N : Int)) (hN2 : N < 100000) (dg : decode cc pc = .ok (.anewarray ix, 3)) (hp : pc + 3 = pc') (hw : Cond.classLink own ix (clN ci) ∈ gtb) (hci : clN ci = RX6 ∨ clN ci = RX7) (hs : avs h.1 st) (hv : avs h.1 (lv.map Prod.snd)) (kk : J L xs l own cc nL ini d Q rc rs pc' lv (vr (h.1 + 1) :: st) (hadd h (rar ci N (fun _ => 0)))) : J L xs l own cc nL ini d Q (rc + 1) (rs + N) pc lv (vi z :: st) h := by
  subst hp
  subst hN
  intro p en R s m args below meth c H locs cells slots TC TS n0 n1 D cA ad ad0 base b t ls Z X hl hR
  have O := X.2.2.2.1
  obtain ⟨y1, y2, y3, y4, y5, y6, y7, y8, y9, y10⟩ := X.2.1
  have hr : R32 (N : Int) := ⟨by omega, by omega⟩
  refine va_newq (D := D) (C := clN ci) (N' := N) X.1.1 X.1.2.1 X.1.2.2.2.1 (X.1.2.2.2.2.1 _ hw) (by rcases hci with z | z <;> rw [z]; exact X.2.2.1.2.2.2.2.2.2.1; exact X.2.2.1.2.2.2.2.2.2.2) O.1 O.2.2.1 O.2.2.2.1 X.2.2.2.2 (fun q hq => Nat.le_trans X.2.2.1.2.2.1 hq) (by rw [show (0 : Int32) = Int32.ofInt 0 from rfl, i32_lt hr z32]; omega) (by rw [i32_clamp hr]; rfl) (by omega) (by omega) (by omega) dg (fun q cB H1 hK1 hP1 hD1 hS1 => ?_)
  have hlim : h.1 + 1 < 1000000 := by omega
  have O2 := WO_add (c := rar ci N (fun _ => 0)) q cB O hlim ⟨by omega, fun _ => Or.inl (Nat.zero_le _)⟩ (hK1.2 0 (cB, .object (clN ci)) rfl) (.inl (cB, N, .inr (.inr (.inr (.inr fun _ => none))))) (by simp [ce, ups]) hP1 hD1
  have k2 := kk _ _ _ _ _ _ _ _ _ _ _ _ _ _ _ _ _ _ _ _ _ _ _ _ _ _ (CT_add q cB X O2 hS1) (by rw [lvm_ext (ups_eq ad h.1 q hlim) hv]; exact hl) hR
  rw [List.map_cons, cvs_ext (ups_eq ad h.1 q hlim) hs] at k2
  have h3 : cv (ups ad (h.1 + 1) q) (vr (h.1 + 1)) = .ref q := by
    show (if h.1 + 1 = 0 then Value.null else Value.ref (ups ad (h.1 + 1) q (h.1 + 1))) = _
    rw [if_neg (by omega)]; simp [ups]
  rw [h3] at k2
  exact k2
theorem sp_b {D : va_G} {cA ad : Nat → Nat} {base b t : Nat} {s : State} {H : Heap} {n1 : Nat} (O : WO D cA ad base b t h s H) (h1 : h.1 ≤ n1) (h2 : n1 < 1000000) : cv ad (vr 1000000) = .ref b ∧ cv ad (vr 1000001) = .ref t := by
  constructor
  · show (if (1000000 : Nat) = 0 then Value.null else Value.ref (ad 1000000)) = _
    rw [if_neg (by decide), O.2.2.2.2.2 1000000 (by omega)]; rfl
  · show (if (1000001 : Nat) = 0 then Value.null else Value.ref (ad 1000001)) = _
    rw [if_neg (by decide), O.2.2.2.2.2 1000001 (by omega)]; rfl
theorem j_gets {ix : Nat} (dg : decode cc pc = .ok (.getstatic ix, 3)) (hp : pc + 3 = pc') (hw : Cond.fieldLink own ix RX2 "ORDERS" "[I" ∈ gtb) (kk : J L xs l own cc nL ini d Q rc rs pc' lv (vr 1000001 :: st) h) : J L xs l own cc nL ini d Q rc rs pc lv st h := by
  subst hp
  intro p en R s m args below meth c H locs cells slots TC TS n0 n1 D cA ad ad0 base b t ls Z X hl hR
  have O := X.2.2.2.1
  obtain ⟨y1, y2, y3, y4, y5, y6, y7, y8, y9, y10⟩ := X.2.1
  refine va_gets X.1.1 X.1.2.1 X.2.2.1.2.2.2.1 X.2.2.2.2 X.1.2.2.2.1 (X.1.2.2.2.2.1 _ hw) (fun _ z => z) dg ?_
  have k2 := kk _ _ _ _ _ _ _ _ _ _ _ _ _ _ _ _ _ _ _ _ _ _ _ _ _ _ X hl hR
  rw [List.map_cons, (sp_b O (n1 := n1) (by omega) y9).2] at k2
  exact k2
theorem j_ordld {i z : Int} (dg : decode cc pc = .ok (.iaload, 1)) (hp : pc + 1 = pc') (e : ldO i = some z) (kk : R32 z → J L xs l own cc nL ini d Q rc rs pc' lv (vi z :: st) h) : J L xs l own cc nL ini d Q rc rs pc lv (vi i :: vr 1000001 :: st) h := by
  subst hp
  intro p en R s m args below meth c H locs cells slots TC TS n0 n1 D cA ad ad0 base b t ls Z X hl hR
  have O := X.2.2.2.1
  obtain ⟨y1, y2, y3, y4, y5, y6, y7, y8, y9, y10⟩ := X.2.1
  unfold ldO at e
  split at e
  · next hi =>
    cases e
    obtain ⟨v1, v2, v3⟩ := vin_of (n := 8) hi.1 hi.2 (by decide)
    show W p l en R s m args below meth c H locs cells slots Z (F0 m pc ls (cv ad (vi i) :: cv ad (vr 1000001) :: st.map (cv ad)))
    rw [(sp_b O (n1 := n1) (by omega) y9).2]
    refine va_ti X.1.1 X.1.2.1 X.2.2.1.2.2.2.2.1 X.2.2.2.2 v1 (v := .int (Int32.ofInt (ordN i.toNat))) (by rw [v2]) dg ?_
    have hz : R32 (ordN i.toNat) := by
      unfold ordN; split <;> exact ⟨by decide, by decide⟩
    exact kk hz _ _ _ _ _ _ _ _ _ _ _ _ _ _ _ _ _ _ _ _ _ _ _ _ _ _ X hl hR
  · cases e
theorem j_scld {i z : Int} (hL : L < 2147483648) (dg : decode cc pc = .ok (.iaload, 1)) (hp : pc + 1 = pc') (e : ldS L xs i = some z) (kk : R32 z → J L xs l own cc nL ini d Q rc rs pc' lv (vi z :: st) h) : J L xs l own cc nL ini d Q rc rs pc lv (vi i :: vr 1000000 :: st) h := by
  subst hp
  intro p en R s m args below meth c H locs cells slots TC TS n0 n1 D cA ad ad0 base b t ls Z X hl hR
  have O := X.2.2.2.1
  obtain ⟨y1, y2, y3, y4, y5, y6, y7, y8, y9, y10⟩ := X.2.1
  unfold ldS at e
  split at e
  · next hi =>
    cases e
    obtain ⟨v1, v2, v3⟩ := vin_of (n := L) hi.1 hi.2 hL
    show W p l en R s m args below meth c H locs cells slots Z (F0 m pc ls (cv ad (vi i) :: cv ad (vr 1000000) :: st.map (cv ad)))
    rw [(sp_b O (n1 := n1) (by omega) y9).1]
    refine va_sld (A := fun q => base ≤ q) X.1.1 X.1.2.1 X.2.2.1.1 (Nat.lt_of_lt_of_le X.2.2.1.2.1 X.2.2.1.2.2.1) (Nat.not_le.mpr X.2.2.1.2.1) X.2.2.2.2 v1 dg ?_
    rw [v2]
    have k2 := kk (R32_to _) _ _ _ _ _ _ _ _ _ _ _ _ _ _ _ _ _ _ _ _ _ _ _ _ _ _ X hl hR
    simp only [List.map_cons, cv, Int32.ofInt_toInt] at k2
    exact k2
  · cases e
theorem j_scln (hL : L < 2147483648) (dg : decode cc pc = .ok (.arraylength, 1)) (hp : pc + 1 = pc') (kk : R32 (L : Int) → J L xs l own cc nL ini d Q rc rs pc' lv (vi (L : Int) :: st) h) : J L xs l own cc nL ini d Q rc rs pc lv (vr 1000000 :: st) h := by
  subst hp
  intro p en R s m args below meth c H locs cells slots TC TS n0 n1 D cA ad ad0 base b t ls Z X hl hR
  have O := X.2.2.2.1
  obtain ⟨y1, y2, y3, y4, y5, y6, y7, y8, y9, y10⟩ := X.2.1
  show W p l en R s m args below meth c H locs cells slots Z (F0 m pc ls (cv ad (vr 1000000) :: st.map (cv ad)))
  rw [(sp_b O (n1 := n1) (by omega) y9).1]
  refine va_slen (A := fun q => base ≤ q) X.1.1 X.1.2.1 X.2.2.1.1 (Nat.lt_of_lt_of_le X.2.2.1.2.1 X.2.2.1.2.2.1) (Nat.not_le.mpr X.2.2.1.2.1) X.2.2.2.2 dg ?_
  rw [← i32_nat]
  exact kk ⟨by omega, by omega⟩ _ _ _ _ _ _ _ _ _ _ _ _ _ _ _ _ _ _ _ _ _ _ _ _ _ _ X hl hR
end
end
section
theorem aok_moved {u U : State} (hvm : u.vm.Alike U.vm) {cA : ClassId} {c : AC} (h : aok u cA c) : aok U cA c := by
  match c, h with
  | .inl (kd, n, f), h => exact ⟨h.1, arrOfT_moved hvm h.2.1, va_RA.moved hvm h.2.2⟩
  | .inr (.inl (ci, n, f)), h => exact ⟨arrOfT_moved hvm h.1, va_RA.moved hvm h.2⟩
  | .inr (.inr _), _ => trivial
theorem WO_moved {D : va_G} {cA ad : Nat → Nat} {base b t : Nat} {h : Hp} {u U : State} {H : Heap} (hvm : u.vm.Alike U.vm) (O : WO D cA ad base b t h u H) : WO D cA ad base b t h U H :=
  ⟨va_K.moved hvm O.1, fun k c hk => aok_moved hvm (O.2.1 k c hk), O.2.2⟩
theorem NW_warm {u U : State} (hW : u.WarmedH U.vm) (h : NW u) : NW U := by
  refine ⟨fun w hw => ?_, va_AO.moved hW.alike h.2.1, va_AO.moved hW.alike h.2.2⟩
  have h1 := (List.mem_filter.mp hw).2
  have h2 := h.1 w hw
  match w, h1, h2 with
  | .methodLinkNest _ _ _ _, _, h2 => exact va_Nw.warmM hW h2
theorem NW_same {u U : State} (hv : u.vm = U.vm) (h : NW u) : NW U := by
  refine ⟨fun w hw => ?_, va_AO.moved (by rw [hv]; exact Vm.Alike.refl _) h.2.1, va_AO.moved (by rw [hv]; exact Vm.Alike.refl _) h.2.2⟩
  have h1 := (List.mem_filter.mp hw).2
  have h2 := h.1 w hw
  match w, h1, h2 with
  | .methodLinkNest _ _ _ _, _, h2 => exact va_Nw.same rfl hv h2
theorem OL_warm {L : Nat} {xs : Nat → Int32} {b t base : Nat} {u U : State} {H : Heap} (hW : u.WarmedH U.vm) (O : OL L xs b t base u H) : OL L xs b t base U H :=
  ⟨va_X.moved hW.alike O.1, O.2.1, O.2.2.1, va_Z.moved hW.alike O.2.2.2.1, va_T.moved hW.alike O.2.2.2.2.1, NW_warm hW O.2.2.2.2.2⟩
theorem OL_same {L : Nat} {xs : Nat → Int32} {b t base : Nat} {u U : State} {H : Heap} (hv : u.vm = U.vm) (O : OL L xs b t base u H) : OL L xs b t base U H := by
  have hA : u.vm.Alike U.vm := by rw [hv]; exact Vm.Alike.refl _
  exact ⟨va_X.moved hA O.1, O.2.1, O.2.2.1, va_Z.moved hA O.2.2.2.1, va_T.moved hA O.2.2.2.2.1, NW_same hv O.2.2.2.2.2⟩
theorem OL_kept {L : Nat} {xs : Nat → Int32} {b t base : Nat} {u : State} {H H1 : Heap} {locs : List Loc} (hS : va_S (fun q => base ≤ q) H H1 locs) (O : OL L xs b t base u H) : OL L xs b t base u H1 :=
  ⟨va_X.kept O.1 (hS.2.1 b (Nat.lt_of_lt_of_le O.2.1 O.2.2.1) (Nat.not_le.mpr O.2.1)), O.2.1, Nat.le_trans O.2.2.1 hS.1, va_Z.kept O.2.2.2.1 hS.2.1, va_T.kept O.2.2.2.2.1 hS.2.1, O.2.2.2.2.2⟩
def rvo (r : AV) : Option Value := match r with
  | .inl (.inl z) => some (.int (Int32.ofInt z))
  | .inl (.inr z) => some (.long (Int64.ofInt z))
  | _ => none
def RO (ret : Option FieldType) (r : AV) : Prop := (ret = some .int ∧ ∃ z, r = vi z) ∨ (ret = some .boolean ∧ (r = vi 0 ∨ r = vi 1)) ∨ (ret = some .long ∧ ∃ z, r = vl z) ∨ (ret = none ∧ r = vu)
theorem RO_sh {ret : Option FieldType} {r : AV} (h : RO ret r) : (∃ z, r = vi z) ∨ (∃ z, r = vl z) ∨ r = vu := by
  rcases h with ⟨-, z⟩ | ⟨-, z⟩ | ⟨-, z⟩ | ⟨-, z⟩
  · exact Or.inl z
  · rcases z with z | z <;> exact Or.inl ⟨_, z⟩
  · exact Or.inr (Or.inl z)
  · exact Or.inr (Or.inr z)
def rmd (d mc ms : Nat) : Room := { frames := d, cells := mc, slots := ms, locals := 64 * d }
def alv : Nat → List AV → List (Nat × AV)
  | _, [] => []
  | i, v :: vs => (i, v) :: alv (if catv v = 2 then i + 2 else i + 1) vs
theorem alv_eq (ad : Nat → Nat) : ∀ (i : Nat) (vs : List AV), lvm ad (alv i vs) = lv_args i (vs.map (cv ad))
  | _, [] => rfl
  | i, v :: vs => by
    show (i, cv ad v) :: lvm ad (alv (if catv v = 2 then i + 2 else i + 1) vs) = (i, cv ad v) :: lv_args (if (cv ad v).category = 2 then i + 2 else i + 1) (vs.map (cv ad))
    rw [alv_eq ad, cv_cat]
def awid : List AV → Nat
  | [] => 0
  | v :: t => catv v + awid t
theorem awid_eq (ad : Nat → Nat) : ∀ vs : List AV, (lg_sl (vs.map (cv ad))).length = awid vs
  | [] => rfl
  | v :: t => by
    have ih := awid_eq ad t
    simp only [lg_sl, List.map_cons, List.flatMap_cons, List.length_append] at ih ⊢
    rw [ih, cv_cat]
    have : catv v = 1 ∨ catv v = 2 := by
      match v with
      | .inl (.inl _) => exact Or.inl rfl
      | .inl (.inr _) => exact Or.inr rfl
      | .inr _ => exact Or.inl rfl
    rcases this with z | z <;> simp [awid, z]
def PcC (L : Nat) (xs : Nat → Int32) (D : va_G) (cA ad : Nat → Nat) (base b t : Nat) (h : Hp) (vs : List AV) : Array Value → State → Prop := fun v U => v = (vs.map (cv ad)).toArray ∧ OL L xs b t base U U.heap ∧ WO D cA ad base b t h U U.heap
def QcC (D : va_G) (ad : Nat → Nat) (base b t : Nat) (h : Hp) (mc : Nat) (Q : AV → Hp → Prop) : Array Value → State → Outcome → State → Prop := fun _ st oc tt => (∃ (r : AV) (h' : Hp) (cA' ad' : Nat → Nat), oc = .returned (rvo r) ∧ Q r h' ∧ avk 0 r ∧ h.1 ≤ h'.1 ∧ h'.1 ≤ h.1 + mc ∧ (∀ k : Nat, k ≤ h.1 → ad' k = ad k) ∧ WO D cA' ad' base b t h' tt tt.heap) ∧ va_F (fun q => base ≤ q) st tt
theorem PcC_blind {L : Nat} {xs : Nat → Int32} {D : va_G} {cA ad : Nat → Nat} {base b t : Nat} {h : Hp} {vs : List AV} : FrameBlind (PcC L xs D cA ad base b t h vs) := by
  intro a U g mk ⟨q1, q2, q3⟩
  exact ⟨q1, OL_same (u := U) (U := U.calling g mk a) rfl q2, WO_moved (u := U) (U := U.calling g mk a) (Vm.Alike.refl U.vm) q3⟩
theorem code_good (y : MethodName) (cc : ByteArray) (nL : Nat) (ret : Option FieldType) (hc : Cond.code y cc nL ret ∈ gtb) : GoodIn gtb (.code y cc nL ret :: gtb) := by
  intro w hw
  rcases List.mem_cons.mp hw with rfl | hw
  · exact ⟨hc, good_of_word ((List.mem_filter.mp hc).2)⟩
  · exact ⟨hw, good_of_word ((List.mem_filter.mp hw).2)⟩
def YM (y : MethodName) (cc : ByteArray) (nL : Nat) (ret : Option FieldType) (n : Nat) : Prop := Cond.code y cc nL ret ∈ gtb ∧ Cond.initialized y.cls ∈ gtb ∧ nL ≤ 40 ∧ plainName y.cls = true ∧ (y.cls ≠ "java/lang/invoke/MethodHandle" ∧ y.cls ≠ "java/lang/invoke/VarHandle" ∧ (parseMethodDescriptor y.desc).map (fun d => d.parameters.length) = some n)
def YV (y : MethodName) (ci : Nat) : Prop := Cond.instanceMethod y ∈ gtb ∧ Cond.selects y.cls y y ∈ gtb ∧ ∃ r, vwCl[ci]? = some r ∧ r.1 = y.cls
def pushr (r : AV) (st : List AV) : List AV := match r with
  | .inr (.inr _) => st
  | v => v :: st
def cob (h : Hp) (ci q : Nat) : Option Unit := match h.2 q with
  | some (.inr (.inr (c, _))) => if c = ci then some () else none
  | _ => none
theorem cob_inv {h : Hp} {ci q : Nat} (e : cob h ci q = some ()) : ∃ fs, h.2 q = some (obj ci fs) := by
  unfold cob at e
  split at e
  · next c fs he =>
    split at e
    · next hc => subst hc; exact ⟨fs, he⟩
    · cases e
  · cases e
theorem catsum (ad : Nat → Nat) : ∀ st : List AV, ((st.map (cv ad)).map fun v => v.category).sum = (st.map catv).sum
  | [] => rfl
  | v :: t => by simp only [List.map_cons, List.sum_cons, cv_cat, catsum ad t]
theorem metOf {L : Nat} {xs : Nat → Int32} {l : Launch} {y : MethodName} {cc : ByteArray} {nL : Nat} {ret : Option FieldType} {ini : Bool} {d mc ms n : Nat} {Q : AV → Hp → Prop} {vs : List AV} {h : Hp} (D : va_G) (cA ad : Nat → Nat) (base b t : Nat)
    (hy : YM y cc nL ret n) (hini : ini = true → y.name = "<init>") (hret : ∀ r h', Q r h' → RO ret r) (hlen : awid vs ≤ nL) (hlim : h.1 + mc < 1000000) (hJ : J L xs l y.cls cc nL ini d Q mc ms 0 (alv 0 vs) [] h) :
    Met l y (.code y cc nL ret :: gtb) (rmd d mc ms) (PcC L xs D cA ad base b t h vs) (QcC D ad base b t h mc Q) mc ms (fun q => base ≤ q) := by
  refine Met.ofW (cc := cc) (maxL := nL) (ret := ret) hy.2.2.2.1 rfl ?_
  intro p en s m args below meth c s₁ B hml hv
  obtain ⟨rfl, hO, hW⟩ := hv
  have hx := B.exec
  have hb := B.bytes
  have hr := B.returns
  have hts := atoms_spec (ws := .code y cc nL ret :: gtb) B.pre
  have hown : s.vm.findClass y.cls = some m.cls := findClass_of_methodNamed B.named
  have hlocks := B.notSynchronized
  have hin := (name_of_methodNamed B.named B.method).1
  have hl := lv_entry (vs.map (cv ad)) (n := nL) (by rw [awid_eq]; exact hlen)
  rw [lg_entry_eq]
  refine hJ p en (rmd d mc ms) s m _ below meth c s.heap [] 0 0 mc ms h.1 (h.1 + mc) D cA ad ad base b t _ _ ⟨⟨hx, hb, hml, hown, fun w hw => hts w (List.mem_cons_of_mem _ hw), fun z => hin.trans (hini z)⟩, ⟨Nat.le_refl _, Nat.le_refl _, Nat.le_refl _, Nat.le_refl _, by omega, by omega, Nat.le_refl _, Nat.le_refl _, hlim, fun _ _ => rfl⟩, hO, hW, va_S.rf⟩ (by rw [alv_eq]; exact hl) ?_
  intro r h' cA' ad' H' locs' cells' slots' pc' ls' q1 q2 q3 q4 q5 q6 q7 q8 q9 q10
  refine W.widen (k := mc) (n := ms) q8 q9 ?_
  have hro := hret r h' q1
  rcases q10 with ⟨z, rfl, dg⟩ | ⟨z, rfl, dg⟩ | ⟨rfl, dg⟩
  · rcases hro with ⟨e1, -⟩ | ⟨e1, e2⟩ | ⟨-, z2, e2⟩ | ⟨-, e2⟩
    · subst e1
      exact W.iret hx hb hr (fun t2 ht hWm => ⟨⟨vi z, h', cA', ad', rfl, q1, q2, q3, q4, q5, by rw [ht]; exact WO_moved hWm.alike q6⟩, q7.F ht⟩) q7.2.2 dg
    · subst e1
      exact W.zret (ty := .boolean) hx hb hr (by rcases e2 with e2 | e2 <;> cases e2 <;> rfl) (fun t2 ht hWm => ⟨⟨vi z, h', cA', ad', rfl, q1, q2, q3, q4, q5, by rw [ht]; exact WO_moved hWm.alike q6⟩, q7.F ht⟩) q7.2.2 dg
    · cases e2
    · cases e2
  · rcases hro with ⟨e1, z2, e2⟩ | ⟨e1, e2⟩ | ⟨e1, -⟩ | ⟨-, e2⟩
    · cases e2
    · rcases e2 with e2 | e2 <;> cases e2
    · subst e1
      exact W.lret hx hb hr (fun t2 ht hWm => ⟨⟨vl z, h', cA', ad', rfl, q1, q2, q3, q4, q5, by rw [ht]; exact WO_moved hWm.alike q6⟩, q7.F ht⟩) q7.2.2 dg
    · cases e2
  · rcases hro with ⟨e1, z2, e2⟩ | ⟨e1, e2⟩ | ⟨e1, z2, e2⟩ | ⟨e1, -⟩
    · cases e2
    · rcases e2 with e2 | e2 <;> cases e2
    · cases e2
    · subst e1
      exact W.vret hx hb hr (fun t2 ht hWm => ⟨⟨vu, h', cA', ad', rfl, q1, q2, q3, q4, q5, by rw [ht]; exact WO_moved hWm.alike q6⟩, q7.F ht⟩) q7.2.2 dg
section
variable {L : Nat} {xs : Nat → Int32} {l : Launch} {own : String} {cc : ByteArray} {nL : Nat} {ini : Bool} {d : Nat} {Q : AV → Hp → Prop} {rc rs : Nat} {pc pc' : Nat} {lv lv' : List (Nat × AV)} {st stk : List AV} {h h' : Hp}
theorem run_go {Qf : AV → Hp → Prop} {mc ms : Nat} {p : Program} {en : Env} {R : Room} {s : State} {m : MethodId} {args : Array Value} {below : List Frame} {meth : Method} {c : Code} {H : Heap} {locs : List Loc} {cells slots TC TS n0 n1 : Nat} {D : va_G} {cA ad ad0 : Nat → Nat} {base b t : Nat} {ls : Array Slot} {Z : State → Prop} {st0 : List Value} {a : Array Value}
    (X : CT L xs own cc nL ini d (rc + mc) (rs + ms) h p R s m args meth c H locs cells slots TC TS n0 n1 D cA ad ad0 base b t) (hl : lv_has ls nL (lvm ad lv)) (hR : RT l cc Q p en R s m args below meth c TC TS n0 n1 D ad0 base b t Z)
    (hr : va_Run p l en R s m args below meth c H locs cells slots mc ms (F0 m pc ls st0) (st.map (cv ad)) (QcC D ad base b t h mc Qf a) (fun q => base ≤ q))
    (hret : ∀ r h', Qf r h' → (∃ z, r = vi z) ∨ (∃ z, r = vl z) ∨ r = vu) (hlive : mc = 0 ∨ (avs h.1 st ∧ avs h.1 (lv.map Prod.snd))) (kk : ∀ r h', Qf r h' → avk 0 r → h.1 ≤ h'.1 → h'.1 ≤ h.1 + mc → J L xs l own cc nL ini d Q rc rs (pc + 3) lv (pushr r st) h') : W p l en R s m args below meth c H locs cells slots Z (F0 m pc ls st0) := by
  intro T hT XS
  obtain ⟨v, st₀, t2, T', Lw, h0, X', hL, e1, e2, ⟨⟨r, h', cA', ad', hv, hq, hav, hn1, hn2, had, hWO⟩, hz, hk⟩, stp⟩ := hr T hT XS
  have hv : v = rvo r := by injection hv
  subst hv
  rw [h0] at hz hk
  obtain ⟨x1, ⟨y1, y2, y3, y4, y5, y6, y7, y8, y9, y10⟩, x3, O, S⟩ := X
  have hal : t2.vm.Alike s.vm := by rw [← e2]; exact X'.warmed.alike.symm
  have hsp : ∀ k, k ≤ h.1 ∨ 1000000 ≤ k → ad' k = ad k := by
    intro k hk
    rcases hk with hk | hk
    · exact had k hk
    · rw [hWO.2.2.2.2.2 k (by omega), O.2.2.2.2.2 k (by omega)]
  have hst : st.map (cv ad') = st.map (cv ad) ∧ lvm ad' lv = lvm ad lv := by
    rcases hlive with hm | ⟨a1, a2⟩
    · have : ad' = ad := by
        funext k
        by_cases hk : k ≤ h.1
        · exact had k hk
        · rw [hWO.2.2.2.2.2 k (by omega), O.2.2.2.2.2 k (by omega)]
      rw [this]; exact ⟨rfl, rfl⟩
    · exact ⟨cvs_ext hsp a1, lvm_ext hsp a2⟩
  have S1 : va_S (fun q => base ≤ q) s.heap T'.heap (locs ++ Lw) := ⟨Nat.le_trans S.1 (by rw [e1]; exact hz), fun q h1 h2 => by rw [e1, hk q (Nat.lt_of_lt_of_le h1 S.1) h2]; exact S.2.1 q h1 h2, fun q hq => by
      rcases List.mem_append.mp hq with z | z
      · exact S.2.2 q z
      · exact hL q z⟩
  have k2 := kk r h' hq hav hn1 hn2 p en R s m args below meth c T'.heap (locs ++ Lw) (cells + mc) (slots + ms) TC TS n0 n1 D cA' ad' ad0 base b t ls Z ⟨x1, ⟨y1, y2, y3, y4, by omega, by omega, Nat.le_trans y7 hn1, by omega, y9, fun k hk => by rw [had k (by omega)]; exact y10 k hk⟩, x3, (by rw [e1]; exact WO_moved hal hWO), S1⟩ (by rw [hst.2]; exact hl) hR
  have hrr := hret r h' hq
  have hps : (pushr r st).map (cv ad') = (rvo r).toList ++ st.map (cv ad) := by
    match r, hav with
    | .inl (.inl z), _ => show _ :: st.map (cv ad') = _ :: _; rw [hst.1]; rfl
    | .inl (.inr z), _ => show _ :: st.map (cv ad') = _ :: _; rw [hst.1]; rfl
    | .inr (.inl q), hav =>
      rcases hrr with z | z | z
      · obtain ⟨z, hz⟩ := z; cases hz
      · obtain ⟨z, hz⟩ := z; cases hz
      · cases z
    | .inr (.inr _), _ => exact hst.1
  rw [hps] at k2
  obtain ⟨t3, a1, b1⟩ := k2 T' rfl X'
  exact ⟨t3, stp t3 a1, b1⟩
theorem cB_of {y : MethodName} {ccY : ByteArray} {nLY : Nat} {ret : Option FieldType} {n dY mc ms ix : Nat} {R : Room} {s : State} {args : Array Value} (ht : ∀ w ∈ gtb, w.before args s = true) (hy : YM y ccY nLY ret n) (hlk : Cond.methodLink own ix y ∈ gtb) (hd : dY + 1 ≤ d) (h1 : d ≤ R.frames) (h2 : 64 * d ≤ R.locals) : CallB R s args own ix y ccY nLY ret (.code y ccY nLY ret :: gtb) (rmd dY mc ms) mc ms n :=
  callB_of n ht (code_good y ccY nLY ret hy.1) rfl rfl rfl (ht _ hy.2.1) (ht _ hlk) hy.2.2.2.2 ⟨by show dY + 1 ≤ _; omega, by have := hy.2.2.1; show 8 + (nLY + 11) + 64 * dY ≤ _; omega⟩
theorem j_callV {y : MethodName} {ccY : ByteArray} {nLY : Nat} {ret : Option FieldType} {dY mc ms ix ci q : Nat} {vs : List AV} {Qf : AV → Hp → Prop} (dg : decode cc pc = .ok (.invokevirtual ix, 3)) (hp : pc + 3 = pc') (hy : YM y ccY nLY ret vs.length) (hyv : YV y ci) (hlk : Cond.methodLink own ix y ∈ gtb) (hd : dY + 1 ≤ d) (hst : stk = vs.reverse ++ vr q :: st) (hsum : (st.map catv).sum ≤ 8) (hw : awid (vr q :: vs) ≤ nLY) (hob : cob h ci q = some ())
    (hret : ∀ r h', Qf r h' → RO ret r) (hlive : mc = 0 ∨ (avs h.1 st ∧ avs h.1 (lv.map Prod.snd))) (hJ : J L xs l y.cls ccY nLY false dY Qf mc ms 0 (alv 0 (vr q :: vs)) [] h) (kk : ∀ r h', Qf r h' → avk 0 r → h.1 ≤ h'.1 → h'.1 ≤ h.1 + mc → J L xs l own cc nL ini d Q rc rs pc' lv (pushr r st) h') : J L xs l own cc nL ini d Q (rc + mc) (rs + ms) pc lv stk h := by
  subst hp
  subst hst
  intro p en R s m args below meth c H locs cells slots TC TS n0 n1 D cA ad ad0 base b t ls Z X hl hR
  obtain ⟨fs, hq⟩ := cob_inv hob
  have O := X.2.2.2.1
  obtain ⟨y1, y2, y3, y4, y5, y6, y7, y8, y9, y10⟩ := X.2.1
  obtain ⟨h1, h2, h3⟩ := O.2.2.2.2.1.1 q _ hq
  obtain ⟨yv1, yv2, rr, yv3, yv4⟩ := hyv
  have hq0 : cv ad (vr q) = .ref (ad q) := if_neg (by omega)
  have hM := metOf D cA ad base b t hy (by intro z; cases z) hret hw (by omega) hJ
  have hcv : (vr q :: vs).map (cv ad) = Value.ref (ad q) :: vs.map (cv ad) := by rw [List.map_cons, hq0]
  refine run_go X hl hR (st := st) (mc := mc) (ms := ms) (Qf := Qf) (va_runV (C := y.cls) (b := ad q) (As := vs.map (cv ad)) ⟨X.1.1, X.1.2.1, X.1.2.2.1, X.1.2.2.2.1, X.1.2.2.2.2.1⟩ hM ⟨cB_of X.1.2.2.2.2.1 hy hlk hd y1 y2, X.1.2.2.2.2.1 _ yv1, X.1.2.2.2.2.1 _ yv2⟩ ⟨PcC_blind, ?_, ?_⟩ rfl (by rw [List.length_map]) hl.1 ?_ (lv_room (by rw [catsum]; exact hsum)) dg ⟨by omega, by omega⟩) (fun r h' z => RO_sh (hret r h' z)) hlive kk
  · rw [← yv4]
    exact va_recv O.1 O.2.2.1 yv3 (wsl_at O.2.2.2.2.1 hq)
  · intro U hU hWm
    refine ⟨by rw [← hcv], ?_, ?_⟩
    · rw [hU]; exact OL_warm hWm (OL_kept X.2.2.2.2 X.2.2.1)
    · rw [hU]; exact WO_moved hWm.alike O
  · show (vs.reverse ++ vr q :: st).map (cv ad) = _
    rw [List.map_append, List.map_cons, hq0, List.map_reverse]
theorem j_callS {y : MethodName} {ccY : ByteArray} {nLY : Nat} {ret : Option FieldType} {dY mc ms ix : Nat} {vs : List AV} {Qf : AV → Hp → Prop} (dg : decode cc pc = .ok (.invokestatic ix, 3)) (hp : pc + 3 = pc') (hy : YM y ccY nLY ret vs.length) (hys : Cond.static y ∈ gtb) (hlk : Cond.methodLink own ix y ∈ gtb) (hd : dY + 1 ≤ d) (hst : stk = vs.reverse ++ st) (hsum : (st.map catv).sum ≤ 8) (hw : awid vs ≤ nLY)
    (hret : ∀ r h', Qf r h' → RO ret r) (hlive : mc = 0 ∨ (avs h.1 st ∧ avs h.1 (lv.map Prod.snd))) (hJ : J L xs l y.cls ccY nLY false dY Qf mc ms 0 (alv 0 vs) [] h) (kk : ∀ r h', Qf r h' → avk 0 r → h.1 ≤ h'.1 → h'.1 ≤ h.1 + mc → J L xs l own cc nL ini d Q rc rs pc' lv (pushr r st) h') : J L xs l own cc nL ini d Q (rc + mc) (rs + ms) pc lv stk h := by
  subst hp
  subst hst
  intro p en R s m args below meth c H locs cells slots TC TS n0 n1 D cA ad ad0 base b t ls Z X hl hR
  have O := X.2.2.2.1
  obtain ⟨y1, y2, y3, y4, y5, y6, y7, y8, y9, y10⟩ := X.2.1
  have hM := metOf D cA ad base b t hy (by intro z; cases z) hret hw (by omega) hJ
  refine run_go X hl hR (st := st) (mc := mc) (ms := ms) (Qf := Qf) (va_runS (As := vs.map (cv ad)) ⟨X.1.1, X.1.2.1, X.1.2.2.1, X.1.2.2.2.1, X.1.2.2.2.2.1⟩ hM ⟨cB_of X.1.2.2.2.2.1 hy hlk hd y1 y2, X.1.2.2.2.2.1 _ hys⟩ ⟨PcC_blind, ?_⟩ rfl (by rw [List.length_map]) hl.1 ?_ (lv_room (by rw [catsum]; exact hsum)) dg ⟨by omega, by omega⟩) (fun r h' z => RO_sh (hret r h' z)) hlive kk
  · intro U hU hWm
    refine ⟨rfl, ?_, ?_⟩
    · rw [hU]; exact OL_warm hWm (OL_kept X.2.2.2.2 X.2.2.1)
    · rw [hU]; exact WO_moved hWm.alike O
  · show (vs.reverse ++ st).map (cv ad) = _
    rw [List.map_append, List.map_reverse]
theorem j_callI {y : MethodName} {ccY : ByteArray} {nLY : Nat} {dY mc ms ix ci q : Nat} {vs : List AV} {Qf : AV → Hp → Prop} (dg : decode cc pc = .ok (.invokespecial ix, 3)) (hp : pc + 3 = pc') (hy : YM y ccY nLY none vs.length) (hyn : y.name = "<init>") (hyi : Cond.instanceMethod y ∈ gtb) (hlk : Cond.methodLink own ix y ∈ gtb) (hd : dY + 1 ≤ d) (hst : stk = vs.reverse ++ vr q :: st) (hsum : (st.map catv).sum ≤ 8) (hw : awid (vr q :: vs) ≤ nLY) (hob : cob h ci q = some ())
    (hret : ∀ r h', Qf r h' → RO none r) (hlive : mc = 0 ∨ (avs h.1 st ∧ avs h.1 (lv.map Prod.snd))) (hJ : J L xs l y.cls ccY nLY true dY Qf mc ms 0 (alv 0 (vr q :: vs)) [] h) (kk : ∀ r h', Qf r h' → avk 0 r → h.1 ≤ h'.1 → h'.1 ≤ h.1 + mc → J L xs l own cc nL ini d Q rc rs pc' lv (pushr r st) h') : J L xs l own cc nL ini d Q (rc + mc) (rs + ms) pc lv stk h := by
  subst hp
  subst hst
  intro p en R s m args below meth c H locs cells slots TC TS n0 n1 D cA ad ad0 base b t ls Z X hl hR
  obtain ⟨fs, hq⟩ := cob_inv hob
  have O := X.2.2.2.1
  obtain ⟨y1, y2, y3, y4, y5, y6, y7, y8, y9, y10⟩ := X.2.1
  obtain ⟨h1, h2, h3⟩ := O.2.2.2.2.1.1 q _ hq
  have hq0 : cv ad (vr q) = .ref (ad q) := if_neg (by omega)
  have hM := metOf D cA ad base b t hy (fun _ => hyn) hret hw (by omega) hJ
  have hcv : (vr q :: vs).map (cv ad) = Value.ref (ad q) :: vs.map (cv ad) := by rw [List.map_cons, hq0]
  refine run_go X hl hR (st := st) (mc := mc) (ms := ms) (Qf := Qf) (va_runI (b := ad q) (As := vs.map (cv ad)) ⟨X.1.1, X.1.2.1, X.1.2.2.1, X.1.2.2.2.1, X.1.2.2.2.2.1⟩ hM ⟨cB_of X.1.2.2.2.2.1 hy hlk hd y1 y2, hyn, X.1.2.2.2.2.1 _ hyi⟩ ⟨PcC_blind, ?_⟩ rfl (by rw [List.length_map]) hl.1 ?_ (lv_room (by rw [catsum]; exact hsum)) dg ⟨by omega, by omega⟩) (fun r h' z => RO_sh (hret r h' z)) hlive kk
  · intro U hU hWm
    refine ⟨by rw [← hcv], ?_, ?_⟩
    · rw [hU]; exact OL_warm hWm (OL_kept X.2.2.2.2 X.2.2.1)
    · rw [hU]; exact WO_moved hWm.alike O
  · show (vs.reverse ++ vr q :: st).map (cv ad) = _
    rw [List.map_append, List.map_cons, hq0, List.map_reverse]
theorem cN_of {y : MethodName} {ccY : ByteArray} {nLY : Nat} {ret : Option FieldType} {n dY mc ms ix : Nat} {R : Room} {s : State} {args : Array Value} {host : String} (ht : ∀ w ∈ gtb, w.before args s = true) (hN : NW s) (hy : YM y ccY nLY ret n) (hlk : Cond.methodLinkNest own ix y host ∈ nwl) (hd : dY + 1 ≤ d) (h1 : d ≤ R.frames) (h2 : 64 * d ≤ R.locals) : va_CN R s args own ix y host ccY nLY ret (.code y ccY nLY ret :: gtb) (rmd dY mc ms) mc ms n :=
  va_cnB n ht (code_good y ccY nLY ret hy.1) rfl rfl rfl (hN.1 _ hlk) (ht _ hy.2.1) hy.2.2.2.2 ⟨by show dY + 1 ≤ _; omega, by have := hy.2.2.1; show 8 + (nLY + 11) + 64 * dY ≤ _; omega⟩
theorem j_callN {y : MethodName} {ccY : ByteArray} {nLY : Nat} {dY mc ms ix ci q : Nat} {vs : List AV} {host : String} {Qf : AV → Hp → Prop} (dg : decode cc pc = .ok (.invokespecial ix, 3)) (hp : pc + 3 = pc') (hy : YM y ccY nLY none vs.length) (hyn : y.name = "<init>") (hyi : Cond.instanceMethod y ∈ gtb) (hlk : Cond.methodLinkNest own ix y host ∈ nwl) (hd : dY + 1 ≤ d) (hst : stk = vs.reverse ++ vr q :: st) (hsum : (st.map catv).sum ≤ 8) (hw : awid (vr q :: vs) ≤ nLY) (hob : cob h ci q = some ())
    (hret : ∀ r h', Qf r h' → RO none r) (hlive : mc = 0 ∨ (avs h.1 st ∧ avs h.1 (lv.map Prod.snd))) (hJ : J L xs l y.cls ccY nLY true dY Qf mc ms 0 (alv 0 (vr q :: vs)) [] h) (kk : ∀ r h', Qf r h' → avk 0 r → h.1 ≤ h'.1 → h'.1 ≤ h.1 + mc → J L xs l own cc nL ini d Q rc rs pc' lv (pushr r st) h') : J L xs l own cc nL ini d Q (rc + mc) (rs + ms) pc lv stk h := by
  subst hp
  subst hst
  intro p en R s m args below meth c H locs cells slots TC TS n0 n1 D cA ad ad0 base b t ls Z X hl hR
  obtain ⟨fs, hq⟩ := cob_inv hob
  have O := X.2.2.2.1
  obtain ⟨y1, y2, y3, y4, y5, y6, y7, y8, y9, y10⟩ := X.2.1
  obtain ⟨h1, h2, h3⟩ := O.2.2.2.2.1.1 q _ hq
  have hq0 : cv ad (vr q) = .ref (ad q) := if_neg (by omega)
  have hM := metOf D cA ad base b t hy (fun _ => hyn) hret hw (by omega) hJ
  have hcv : (vr q :: vs).map (cv ad) = Value.ref (ad q) :: vs.map (cv ad) := by rw [List.map_cons, hq0]
  refine run_go X hl hR (st := st) (mc := mc) (ms := ms) (Qf := Qf) (va_runIN (b := ad q) (As := vs.map (cv ad)) ⟨X.1.1, X.1.2.1, X.1.2.2.1, X.1.2.2.2.1, X.1.2.2.2.2.1⟩ hM ⟨cN_of X.1.2.2.2.2.1 X.2.2.1.2.2.2.2.2 hy hlk hd y1 y2, hyn, X.1.2.2.2.2.1 _ hyi⟩ ⟨PcC_blind, ?_⟩ rfl (by rw [List.length_map]) hl.1 ?_ (lv_room (by rw [catsum]; exact hsum)) dg ⟨by omega, by omega⟩) (fun r h' z => RO_sh (hret r h' z)) hlive kk
  · intro U hU hWm
    refine ⟨by rw [← hcv], ?_, ?_⟩
    · rw [hU]; exact OL_warm hWm (OL_kept X.2.2.2.2 X.2.2.1)
    · rw [hU]; exact WO_moved hWm.alike O
  · show (vs.reverse ++ vr q :: st).map (cv ad) = _
    rw [List.map_append, List.map_cons, hq0, List.map_reverse]
theorem j_objInit {ix ci q : Nat} (dg : decode cc pc = .ok (.invokespecial ix, 3)) (hp : pc + 3 = pc') (hw1 : Cond.methodLink own ix objectInit ∈ gtb) (hw2 : Cond.instanceMethod objectInit ∈ gtb) (hw3 : Cond.code objectInit ⟨#[0xb1]⟩ 1 none ∈ gtb) (hd : 1 ≤ d) (hob : cob h ci q = some ()) (hsum : (st.map catv).sum ≤ 8) (k : J L xs l own cc nL ini d Q rc rs pc' lv st h) : J L xs l own cc nL ini d Q rc rs pc lv (vr q :: st) h := by
  subst hp
  intro p en R s m args below meth c H locs cells slots TC TS n0 n1 D cA ad ad0 base b t ls Z X hl hR
  obtain ⟨fs, hq⟩ := cob_inv hob
  have O := X.2.2.2.1
  obtain ⟨y1, y2, y3, y4, y5, y6, y7, y8, y9, y10⟩ := X.2.1
  obtain ⟨h1, h2, h3⟩ := O.2.2.2.2.1.1 q _ hq
  have hq0 : cv ad (vr q) = .ref (ad q) := if_neg (by omega)
  have hrm := lv_room (m := m) (pc := pc) (ls := ls) (rest := (vr q :: st).map (cv ad)) (st := st.map (cv ad)) (by rw [catsum]; exact hsum)
  refine W.objInit X.1.1 X.1.2.1 X.1.2.2.2.1 (X.1.2.2.2.2.1 _ hw1) (X.1.2.2.2.2.1 _ hw2) (X.1.2.2.2.2.1 _ hw3) rfl (by rw [X.1.2.2.1]; exact hl.1) (a := ad q) (rest := st.map (cv ad)) (by show (vr q :: st).map (cv ad) = _; rw [List.map_cons, hq0]) dg (by omega) (by omega) ?_
  exact k _ _ _ _ _ _ _ _ _ _ _ _ _ _ _ _ _ _ _ _ _ _ _ _ _ _ X hl hR
theorem j_cpy {ix q1 q2 : Nat} {i1 i2 n : Int} (dg : decode cc pc = .ok (.invokestatic ix, 3)) (hp : pc + 3 = pc') (hw1 : Cond.methodLink own ix arraycopyName ∈ gtb) (hw2 : Cond.native arraycopyName ∈ gtb) (hw3 : Cond.static arraycopyName ∈ gtb) (hw4 : Cond.initialized "java/lang/System" ∈ gtb) (hd : 1 ≤ d) (hsum : (st.map catv).sum ≤ 8) (ee : cpyI h q1 i1 q2 i2 n = some h') (k : J L xs l own cc nL ini d Q rc rs pc' lv st h') : J L xs l own cc nL ini d Q rc rs pc lv (vi n :: vi i2 :: vr q2 :: vi i1 :: vr q1 :: st) h := by
  subst hp
  intro p en R s m args below meth c H locs cells slots TC TS n0 n1 D cA ad ad0 base b t ls Z X hl hR
  obtain ⟨m1, f, m2, g, hq1, hq2, b1, b2, b3, b4, b5, b6, rfl⟩ := cpyI_inv ee
  have O := X.2.2.2.1
  obtain ⟨y1, y2, y3, y4, y5, y6, y7, y8, y9, y10⟩ := X.2.1
  obtain ⟨h1, h2, h3⟩ := O.2.2.2.2.1.1 q1 _ hq1
  obtain ⟨g1, g2, g3⟩ := O.2.2.2.2.1.1 q2 _ hq2
  have z1 : cv ad (vr q1) = .ref (ad q1) := if_neg (by omega)
  have z2 : cv ad (vr q2) = .ref (ad q2) := if_neg (by omega)
  have l1 := h3.1
  have l2 := g3.1
  have r1 : R32 i1 := ⟨by omega, by omega⟩
  have r2 : R32 i2 := ⟨by omega, by omega⟩
  have r3 : R32 n := ⟨by omega, by omega⟩
  have neg : ∀ {x : Int}, R32 x → 0 ≤ x → ¬ Int32.ofInt x < 0 := fun {x} hr hx => by rw [show (0 : Int32) = Int32.ofInt 0 from rfl, i32_lt hr z32]; omega
  have hK2 : va_K D vwCl [(cA q1, .int), (cA q2, .int)] s := ⟨O.1.1, fun k r hk => by
    match k, hk with
    | 0, hk => cases hk; exact (O.2.1 q1 _ hq1).2
    | 1, hk => cases hk; exact (O.2.1 q2 _ hq2).2
    | k + 2, hk => simp at hk⟩
  show W p l en R s m args below meth c H locs cells slots Z (F0 m pc ls (cv ad (vi n) :: cv ad (vi i2) :: cv ad (vr q2) :: cv ad (vi i1) :: cv ad (vr q1) :: st.map (cv ad)))
  rw [z1, z2]
  have hnf : nativeFrameWords "java/lang/System" "arraycopy" 5 + 11 ≤ 40 := by decide +kernel
  refine va_copyi (D := D) (n0 := m1) (n1 := m2) (f := fun j => Int32.ofInt (f j)) (g := fun j => Int32.ofInt (g j)) (ty := .int) X.1.1 X.1.2.1 (by rw [X.1.2.2.1]; exact hl.1.symm) X.1.2.2.2.1 (X.1.2.2.2.2.1 _ hw1) (X.1.2.2.2.2.1 _ hw2) (X.1.2.2.2.2.1 _ hw3) (X.1.2.2.2.2.1 _ hw4) hK2 O.2.2.1 O.2.2.2.1 X.2.2.2.2 (q1 - 1) (q2 - 1) 0 1 (wsl_at O.2.2.2.2.1 hq1) (wsl_at O.2.2.2.2.1 hq2) rfl rfl rfl (neg r1 b1) (neg r2 b2) (neg r3 b3) (by rw [i32_clamp r1, i32_clamp r3]; omega) (by rw [i32_clamp r2, i32_clamp r3]; omega) (fun _ _ => rfl) (by omega) (by rw [catsum]; omega) dg (fun H1 locs1 hP1 hD1 hS1 => ?_)
  rw [i32_clamp r1, i32_clamp r2, i32_clamp r3] at hP1 hD1
  have hf : va_cpy (fun j => Int32.ofInt (f j)) (fun j => Int32.ofInt (g j)) i1.toNat i2.toNat n.toNat = fun k => Int32.ofInt (if i2.toNat ≤ k ∧ k < i2.toNat + n.toNat then f (i1.toNat + (k - i2.toNat)) else g k) := by
    funext j; simp only [va_cpy]; split <;> rfl
  rw [hf] at hP1 hD1
  refine k _ _ _ _ _ _ _ _ _ _ _ _ _ _ _ _ _ _ _ _ _ _ _ _ _ _ (CT_put X rfl (WO_put (arr 0 m2 (fun k => if i2.toNat ≤ k ∧ k < i2.toNat + n.toNat then f (i1.toNat + (k - i2.toNat)) else g k)) O hq2 ⟨g3.1, fun j => ?_⟩ (have := O.2.1 q2 _ hq2; this) hP1 hD1) hS1) hl hR
  show R32 (if _ then _ else _)
  split
  · exact h3.2 _
  · exact g3.2 j
end
end
section

def QI (r : Int × Hp) : AV → Hp → Prop := fun a g => a = vi r.1 ∧ g = r.2
def QB (r : Int × Hp) : AV → Hp → Prop := fun a g => a = vi r.1 ∧ g = r.2 ∧ (r.1 = 0 ∨ r.1 = 1)
def QL (r : Int × Hp) : AV → Hp → Prop := fun a g => a = vl r.1 ∧ g = r.2
def QV (r : Hp) : AV → Hp → Prop := fun a g => a = vu ∧ g = r
def cbo (z : Int) : Option Unit := if z = 0 ∨ z = 1 then some () else none
theorem cbo_R {z : Int} (h : cbo z = some ()) : z = 0 ∨ z = 1 := by unfold cbo at h; split at h <;> simp_all
def newO (h : Hp) (c : AC) : Option (Nat × Hp) := some (h.1 + 1, hadd h c)
theorem R32_lcmp (x y : Int) : R32 (lCmp x y) := by unfold lCmp R32; split <;> (try split) <;> omega
section
variable {L : Nat} {xs : Nat → Int32} {l : Launch} {own : String} {cc : ByteArray} {nL : Nat} {ini : Bool} {d : Nat} {Q : AV → Hp → Prop} {rc rs : Nat} {pc pc' : Nat} {lv lv' : List (Nat × AV)} {st stk : List AV} {h h' : Hp}

theorem j_room {a b : Nat} (k : J L xs l own cc nL ini d Q rc rs pc lv st h) : J L xs l own cc nL ini d Q (rc + a) (rs + b) pc lv st h := by
  intro p en R s m args below meth c H locs cells slots TC TS n0 n1 D cA ad ad0 base bb t ls Z X hl hR
  obtain ⟨x1, ⟨y1, y2, y3, y4, y5, y6, y7, y8, y9, y10⟩, x3, x4, x5⟩ := X
  exact k _ _ _ _ _ _ _ _ _ _ _ _ _ _ _ _ _ _ _ _ _ _ _ _ _ _ ⟨x1, ⟨y1, y2, y3, y4, by omega, by omega, y7, by omega, y9, y10⟩, x3, x4, x5⟩ hl hR
theorem j_rc {rc2 rs2 : Nat} (h1 : rc2 ≤ rc) (h2 : rs2 ≤ rs) (k : J L xs l own cc nL ini d Q rc2 rs2 pc lv st h) : J L xs l own cc nL ini d Q rc rs pc lv st h := by
  obtain ⟨a, rfl⟩ := Nat.le.dest h1
  obtain ⟨b, rfl⟩ := Nat.le.dest h2
  exact j_room k
theorem j_d {d2 : Nat} (h1 : d2 ≤ d) (k : J L xs l own cc nL ini d2 Q rc rs pc lv st h) : J L xs l own cc nL ini d Q rc rs pc lv st h := by
  intro p en R s m args below meth c H locs cells slots TC TS n0 n1 D cA ad ad0 base bb t ls Z X hl hR
  obtain ⟨x1, ⟨y1, y2, y3, y4, y5, y6, y7, y8, y9, y10⟩, x3, x4, x5⟩ := X
  exact k _ _ _ _ _ _ _ _ _ _ _ _ _ _ _ _ _ _ _ _ _ _ _ _ _ _ ⟨x1, ⟨by omega, by omega, y3, y4, y5, y6, y7, y8, y9, y10⟩, x3, x4, x5⟩ hl hR
theorem j_cVi {y : MethodName} {ccY : ByteArray} {nLY : Nat} {dY ix ci q : Nat} {vs : List AV} {res : Int × Hp} (dg : decode cc pc = .ok (.invokevirtual ix, 3)) (hp : pc + 3 = pc') (hy : YM y ccY nLY (some .int) vs.length) (hyv : YV y ci) (hlk : Cond.methodLink own ix y ∈ gtb) (hd : dY + 1 ≤ d) (hst : stk = vs.reverse ++ vr q :: st) (hsum : (st.map catv).sum ≤ 8) (hw : awid (vr q :: vs) ≤ nLY) (hob : cob h ci q = some ()) (hJ : J L xs l y.cls ccY nLY false dY (QI res) 0 0 0 (alv 0 (vr q :: vs)) [] h) (kk : R32 res.1 → res.2.1 = h.1 → J L xs l own cc nL ini d Q rc rs pc' lv (vi res.1 :: st) (res.2)) : J L xs l own cc nL ini d Q rc rs pc lv stk h := by
  refine j_callV (mc := 0) (ms := 0) dg hp hy hyv hlk hd hst hsum hw hob (fun r h' z => Or.inl ⟨rfl, _, z.1⟩) (Or.inl rfl) hJ (fun r h' hq hav h1 h2 => ?_)
  obtain ⟨rfl, rfl⟩ := hq
  exact kk hav (by omega)
theorem j_aVi {y : MethodName} {ccY : ByteArray} {nLY : Nat} {dY ix ci q : Nat} {vs : List AV} {mc ms : Nat} {res : Int × Hp} (dg : decode cc pc = .ok (.invokevirtual ix, 3)) (hp : pc + 3 = pc') (hy : YM y ccY nLY (some .int) vs.length) (hyv : YV y ci) (hlk : Cond.methodLink own ix y ∈ gtb) (hd : dY + 1 ≤ d) (hst : stk = vs.reverse ++ vr q :: st) (hsum : (st.map catv).sum ≤ 8) (hw : awid (vr q :: vs) ≤ nLY) (hob : cob h ci q = some ()) (hl1 : avs h.1 st) (hl2 : avs h.1 (lv.map Prod.snd)) (hJ : J L xs l y.cls ccY nLY false dY (QI res) mc ms 0 (alv 0 (vr q :: vs)) [] h) (kk : R32 res.1 → J L xs l own cc nL ini d Q rc rs pc' lv (vi res.1 :: st) (res.2)) : J L xs l own cc nL ini d Q (rc + mc) (rs + ms) pc lv stk h := by
  refine j_callV (mc := mc) (ms := ms) dg hp hy hyv hlk hd hst hsum hw hob (fun r h' z => Or.inl ⟨rfl, _, z.1⟩) (Or.inr ⟨hl1, hl2⟩) hJ (fun r h' hq hav h1 h2 => ?_)
  obtain ⟨rfl, rfl⟩ := hq
  exact kk hav 
theorem j_cSi {y : MethodName} {ccY : ByteArray} {nLY : Nat} {dY ix : Nat} {vs : List AV} {res : Int × Hp} (dg : decode cc pc = .ok (.invokestatic ix, 3)) (hp : pc + 3 = pc') (hy : YM y ccY nLY (some .int) vs.length) (hys : Cond.static y ∈ gtb) (hlk : Cond.methodLink own ix y ∈ gtb) (hd : dY + 1 ≤ d) (hst : stk = vs.reverse ++ st) (hsum : (st.map catv).sum ≤ 8) (hw : awid vs ≤ nLY) (hJ : J L xs l y.cls ccY nLY false dY (QI res) 0 0 0 (alv 0 vs) [] h) (kk : R32 res.1 → res.2.1 = h.1 → J L xs l own cc nL ini d Q rc rs pc' lv (vi res.1 :: st) (res.2)) : J L xs l own cc nL ini d Q rc rs pc lv stk h := by
  refine j_callS (mc := 0) (ms := 0) dg hp hy hys hlk hd hst hsum hw (fun r h' z => Or.inl ⟨rfl, _, z.1⟩) (Or.inl rfl) hJ (fun r h' hq hav h1 h2 => ?_)
  obtain ⟨rfl, rfl⟩ := hq
  exact kk hav (by omega)
theorem j_aSi {y : MethodName} {ccY : ByteArray} {nLY : Nat} {dY ix : Nat} {vs : List AV} {mc ms : Nat} {res : Int × Hp} (dg : decode cc pc = .ok (.invokestatic ix, 3)) (hp : pc + 3 = pc') (hy : YM y ccY nLY (some .int) vs.length) (hys : Cond.static y ∈ gtb) (hlk : Cond.methodLink own ix y ∈ gtb) (hd : dY + 1 ≤ d) (hst : stk = vs.reverse ++ st) (hsum : (st.map catv).sum ≤ 8) (hw : awid vs ≤ nLY) (hl1 : avs h.1 st) (hl2 : avs h.1 (lv.map Prod.snd)) (hJ : J L xs l y.cls ccY nLY false dY (QI res) mc ms 0 (alv 0 vs) [] h) (kk : R32 res.1 → J L xs l own cc nL ini d Q rc rs pc' lv (vi res.1 :: st) (res.2)) : J L xs l own cc nL ini d Q (rc + mc) (rs + ms) pc lv stk h := by
  refine j_callS (mc := mc) (ms := ms) dg hp hy hys hlk hd hst hsum hw (fun r h' z => Or.inl ⟨rfl, _, z.1⟩) (Or.inr ⟨hl1, hl2⟩) hJ (fun r h' hq hav h1 h2 => ?_)
  obtain ⟨rfl, rfl⟩ := hq
  exact kk hav 
theorem j_cVb {y : MethodName} {ccY : ByteArray} {nLY : Nat} {dY ix ci q : Nat} {vs : List AV} {res : Int × Hp} (dg : decode cc pc = .ok (.invokevirtual ix, 3)) (hp : pc + 3 = pc') (hy : YM y ccY nLY (some .boolean) vs.length) (hyv : YV y ci) (hlk : Cond.methodLink own ix y ∈ gtb) (hd : dY + 1 ≤ d) (hst : stk = vs.reverse ++ vr q :: st) (hsum : (st.map catv).sum ≤ 8) (hw : awid (vr q :: vs) ≤ nLY) (hob : cob h ci q = some ()) (hJ : J L xs l y.cls ccY nLY false dY (QB res) 0 0 0 (alv 0 (vr q :: vs)) [] h) (kk : R32 res.1 → (res.1 = 0 ∨ res.1 = 1) → res.2.1 = h.1 → J L xs l own cc nL ini d Q rc rs pc' lv (vi res.1 :: st) (res.2)) : J L xs l own cc nL ini d Q rc rs pc lv stk h := by
  refine j_callV (mc := 0) (ms := 0) dg hp hy hyv hlk hd hst hsum hw hob (fun r h' z => Or.inr (Or.inl ⟨rfl, by rcases z.2.2 with q | q <;> (rw [z.1, q]; simp)⟩)) (Or.inl rfl) hJ (fun r h' hq hav h1 h2 => ?_)
  obtain ⟨rfl, rfl, hb⟩ := hq
  exact kk hav hb (by omega)
theorem j_aVb {y : MethodName} {ccY : ByteArray} {nLY : Nat} {dY ix ci q : Nat} {vs : List AV} {mc ms : Nat} {res : Int × Hp} (dg : decode cc pc = .ok (.invokevirtual ix, 3)) (hp : pc + 3 = pc') (hy : YM y ccY nLY (some .boolean) vs.length) (hyv : YV y ci) (hlk : Cond.methodLink own ix y ∈ gtb) (hd : dY + 1 ≤ d) (hst : stk = vs.reverse ++ vr q :: st) (hsum : (st.map catv).sum ≤ 8) (hw : awid (vr q :: vs) ≤ nLY) (hob : cob h ci q = some ()) (hl1 : avs h.1 st) (hl2 : avs h.1 (lv.map Prod.snd)) (hJ : J L xs l y.cls ccY nLY false dY (QB res) mc ms 0 (alv 0 (vr q :: vs)) [] h) (kk : R32 res.1 → (res.1 = 0 ∨ res.1 = 1) → J L xs l own cc nL ini d Q rc rs pc' lv (vi res.1 :: st) (res.2)) : J L xs l own cc nL ini d Q (rc + mc) (rs + ms) pc lv stk h := by
  refine j_callV (mc := mc) (ms := ms) dg hp hy hyv hlk hd hst hsum hw hob (fun r h' z => Or.inr (Or.inl ⟨rfl, by rcases z.2.2 with q | q <;> (rw [z.1, q]; simp)⟩)) (Or.inr ⟨hl1, hl2⟩) hJ (fun r h' hq hav h1 h2 => ?_)
  obtain ⟨rfl, rfl, hb⟩ := hq
  exact kk hav hb 
theorem j_cSb {y : MethodName} {ccY : ByteArray} {nLY : Nat} {dY ix : Nat} {vs : List AV} {res : Int × Hp} (dg : decode cc pc = .ok (.invokestatic ix, 3)) (hp : pc + 3 = pc') (hy : YM y ccY nLY (some .boolean) vs.length) (hys : Cond.static y ∈ gtb) (hlk : Cond.methodLink own ix y ∈ gtb) (hd : dY + 1 ≤ d) (hst : stk = vs.reverse ++ st) (hsum : (st.map catv).sum ≤ 8) (hw : awid vs ≤ nLY) (hJ : J L xs l y.cls ccY nLY false dY (QB res) 0 0 0 (alv 0 vs) [] h) (kk : R32 res.1 → (res.1 = 0 ∨ res.1 = 1) → res.2.1 = h.1 → J L xs l own cc nL ini d Q rc rs pc' lv (vi res.1 :: st) (res.2)) : J L xs l own cc nL ini d Q rc rs pc lv stk h := by
  refine j_callS (mc := 0) (ms := 0) dg hp hy hys hlk hd hst hsum hw (fun r h' z => Or.inr (Or.inl ⟨rfl, by rcases z.2.2 with q | q <;> (rw [z.1, q]; simp)⟩)) (Or.inl rfl) hJ (fun r h' hq hav h1 h2 => ?_)
  obtain ⟨rfl, rfl, hb⟩ := hq
  exact kk hav hb (by omega)
theorem j_aSb {y : MethodName} {ccY : ByteArray} {nLY : Nat} {dY ix : Nat} {vs : List AV} {mc ms : Nat} {res : Int × Hp} (dg : decode cc pc = .ok (.invokestatic ix, 3)) (hp : pc + 3 = pc') (hy : YM y ccY nLY (some .boolean) vs.length) (hys : Cond.static y ∈ gtb) (hlk : Cond.methodLink own ix y ∈ gtb) (hd : dY + 1 ≤ d) (hst : stk = vs.reverse ++ st) (hsum : (st.map catv).sum ≤ 8) (hw : awid vs ≤ nLY) (hl1 : avs h.1 st) (hl2 : avs h.1 (lv.map Prod.snd)) (hJ : J L xs l y.cls ccY nLY false dY (QB res) mc ms 0 (alv 0 vs) [] h) (kk : R32 res.1 → (res.1 = 0 ∨ res.1 = 1) → J L xs l own cc nL ini d Q rc rs pc' lv (vi res.1 :: st) (res.2)) : J L xs l own cc nL ini d Q (rc + mc) (rs + ms) pc lv stk h := by
  refine j_callS (mc := mc) (ms := ms) dg hp hy hys hlk hd hst hsum hw (fun r h' z => Or.inr (Or.inl ⟨rfl, by rcases z.2.2 with q | q <;> (rw [z.1, q]; simp)⟩)) (Or.inr ⟨hl1, hl2⟩) hJ (fun r h' hq hav h1 h2 => ?_)
  obtain ⟨rfl, rfl, hb⟩ := hq
  exact kk hav hb 
theorem j_cVl {y : MethodName} {ccY : ByteArray} {nLY : Nat} {dY ix ci q : Nat} {vs : List AV} {res : Int × Hp} (dg : decode cc pc = .ok (.invokevirtual ix, 3)) (hp : pc + 3 = pc') (hy : YM y ccY nLY (some .long) vs.length) (hyv : YV y ci) (hlk : Cond.methodLink own ix y ∈ gtb) (hd : dY + 1 ≤ d) (hst : stk = vs.reverse ++ vr q :: st) (hsum : (st.map catv).sum ≤ 8) (hw : awid (vr q :: vs) ≤ nLY) (hob : cob h ci q = some ()) (hJ : J L xs l y.cls ccY nLY false dY (QL res) 0 0 0 (alv 0 (vr q :: vs)) [] h) (kk : R64 res.1 → res.2.1 = h.1 → J L xs l own cc nL ini d Q rc rs pc' lv (vl res.1 :: st) (res.2)) : J L xs l own cc nL ini d Q rc rs pc lv stk h := by
  refine j_callV (mc := 0) (ms := 0) dg hp hy hyv hlk hd hst hsum hw hob (fun r h' z => Or.inr (Or.inr (Or.inl ⟨rfl, _, z.1⟩))) (Or.inl rfl) hJ (fun r h' hq hav h1 h2 => ?_)
  obtain ⟨rfl, rfl⟩ := hq
  exact kk hav (by omega)
theorem j_aVl {y : MethodName} {ccY : ByteArray} {nLY : Nat} {dY ix ci q : Nat} {vs : List AV} {mc ms : Nat} {res : Int × Hp} (dg : decode cc pc = .ok (.invokevirtual ix, 3)) (hp : pc + 3 = pc') (hy : YM y ccY nLY (some .long) vs.length) (hyv : YV y ci) (hlk : Cond.methodLink own ix y ∈ gtb) (hd : dY + 1 ≤ d) (hst : stk = vs.reverse ++ vr q :: st) (hsum : (st.map catv).sum ≤ 8) (hw : awid (vr q :: vs) ≤ nLY) (hob : cob h ci q = some ()) (hl1 : avs h.1 st) (hl2 : avs h.1 (lv.map Prod.snd)) (hJ : J L xs l y.cls ccY nLY false dY (QL res) mc ms 0 (alv 0 (vr q :: vs)) [] h) (kk : R64 res.1 → J L xs l own cc nL ini d Q rc rs pc' lv (vl res.1 :: st) (res.2)) : J L xs l own cc nL ini d Q (rc + mc) (rs + ms) pc lv stk h := by
  refine j_callV (mc := mc) (ms := ms) dg hp hy hyv hlk hd hst hsum hw hob (fun r h' z => Or.inr (Or.inr (Or.inl ⟨rfl, _, z.1⟩))) (Or.inr ⟨hl1, hl2⟩) hJ (fun r h' hq hav h1 h2 => ?_)
  obtain ⟨rfl, rfl⟩ := hq
  exact kk hav 
theorem j_cSl {y : MethodName} {ccY : ByteArray} {nLY : Nat} {dY ix : Nat} {vs : List AV} {res : Int × Hp} (dg : decode cc pc = .ok (.invokestatic ix, 3)) (hp : pc + 3 = pc') (hy : YM y ccY nLY (some .long) vs.length) (hys : Cond.static y ∈ gtb) (hlk : Cond.methodLink own ix y ∈ gtb) (hd : dY + 1 ≤ d) (hst : stk = vs.reverse ++ st) (hsum : (st.map catv).sum ≤ 8) (hw : awid vs ≤ nLY) (hJ : J L xs l y.cls ccY nLY false dY (QL res) 0 0 0 (alv 0 vs) [] h) (kk : R64 res.1 → res.2.1 = h.1 → J L xs l own cc nL ini d Q rc rs pc' lv (vl res.1 :: st) (res.2)) : J L xs l own cc nL ini d Q rc rs pc lv stk h := by
  refine j_callS (mc := 0) (ms := 0) dg hp hy hys hlk hd hst hsum hw (fun r h' z => Or.inr (Or.inr (Or.inl ⟨rfl, _, z.1⟩))) (Or.inl rfl) hJ (fun r h' hq hav h1 h2 => ?_)
  obtain ⟨rfl, rfl⟩ := hq
  exact kk hav (by omega)
theorem j_aSl {y : MethodName} {ccY : ByteArray} {nLY : Nat} {dY ix : Nat} {vs : List AV} {mc ms : Nat} {res : Int × Hp} (dg : decode cc pc = .ok (.invokestatic ix, 3)) (hp : pc + 3 = pc') (hy : YM y ccY nLY (some .long) vs.length) (hys : Cond.static y ∈ gtb) (hlk : Cond.methodLink own ix y ∈ gtb) (hd : dY + 1 ≤ d) (hst : stk = vs.reverse ++ st) (hsum : (st.map catv).sum ≤ 8) (hw : awid vs ≤ nLY) (hl1 : avs h.1 st) (hl2 : avs h.1 (lv.map Prod.snd)) (hJ : J L xs l y.cls ccY nLY false dY (QL res) mc ms 0 (alv 0 vs) [] h) (kk : R64 res.1 → J L xs l own cc nL ini d Q rc rs pc' lv (vl res.1 :: st) (res.2)) : J L xs l own cc nL ini d Q (rc + mc) (rs + ms) pc lv stk h := by
  refine j_callS (mc := mc) (ms := ms) dg hp hy hys hlk hd hst hsum hw (fun r h' z => Or.inr (Or.inr (Or.inl ⟨rfl, _, z.1⟩))) (Or.inr ⟨hl1, hl2⟩) hJ (fun r h' hq hav h1 h2 => ?_)
  obtain ⟨rfl, rfl⟩ := hq
  exact kk hav 
theorem j_cVv {y : MethodName} {ccY : ByteArray} {nLY : Nat} {dY ix ci q : Nat} {vs : List AV} {res : Hp} (dg : decode cc pc = .ok (.invokevirtual ix, 3)) (hp : pc + 3 = pc') (hy : YM y ccY nLY (none) vs.length) (hyv : YV y ci) (hlk : Cond.methodLink own ix y ∈ gtb) (hd : dY + 1 ≤ d) (hst : stk = vs.reverse ++ vr q :: st) (hsum : (st.map catv).sum ≤ 8) (hw : awid (vr q :: vs) ≤ nLY) (hob : cob h ci q = some ()) (hJ : J L xs l y.cls ccY nLY false dY (QV res) 0 0 0 (alv 0 (vr q :: vs)) [] h) (kk : res.1 = h.1 → J L xs l own cc nL ini d Q rc rs pc' lv (st) (res)) : J L xs l own cc nL ini d Q rc rs pc lv stk h := by
  refine j_callV (mc := 0) (ms := 0) dg hp hy hyv hlk hd hst hsum hw hob (fun r h' z => Or.inr (Or.inr (Or.inr ⟨rfl, z.1⟩))) (Or.inl rfl) hJ (fun r h' hq hav h1 h2 => ?_)
  obtain ⟨rfl, rfl⟩ := hq
  exact kk (by omega)
theorem j_aVv {y : MethodName} {ccY : ByteArray} {nLY : Nat} {dY ix ci q : Nat} {vs : List AV} {mc ms : Nat} {res : Hp} (dg : decode cc pc = .ok (.invokevirtual ix, 3)) (hp : pc + 3 = pc') (hy : YM y ccY nLY (none) vs.length) (hyv : YV y ci) (hlk : Cond.methodLink own ix y ∈ gtb) (hd : dY + 1 ≤ d) (hst : stk = vs.reverse ++ vr q :: st) (hsum : (st.map catv).sum ≤ 8) (hw : awid (vr q :: vs) ≤ nLY) (hob : cob h ci q = some ()) (hl1 : avs h.1 st) (hl2 : avs h.1 (lv.map Prod.snd)) (hJ : J L xs l y.cls ccY nLY false dY (QV res) mc ms 0 (alv 0 (vr q :: vs)) [] h) (kk : J L xs l own cc nL ini d Q rc rs pc' lv (st) (res)) : J L xs l own cc nL ini d Q (rc + mc) (rs + ms) pc lv stk h := by
  refine j_callV (mc := mc) (ms := ms) dg hp hy hyv hlk hd hst hsum hw hob (fun r h' z => Or.inr (Or.inr (Or.inr ⟨rfl, z.1⟩))) (Or.inr ⟨hl1, hl2⟩) hJ (fun r h' hq hav h1 h2 => ?_)
  obtain ⟨rfl, rfl⟩ := hq
  exact kk
theorem j_cSv {y : MethodName} {ccY : ByteArray} {nLY : Nat} {dY ix : Nat} {vs : List AV} {res : Hp} (dg : decode cc pc = .ok (.invokestatic ix, 3)) (hp : pc + 3 = pc') (hy : YM y ccY nLY (none) vs.length) (hys : Cond.static y ∈ gtb) (hlk : Cond.methodLink own ix y ∈ gtb) (hd : dY + 1 ≤ d) (hst : stk = vs.reverse ++ st) (hsum : (st.map catv).sum ≤ 8) (hw : awid vs ≤ nLY) (hJ : J L xs l y.cls ccY nLY false dY (QV res) 0 0 0 (alv 0 vs) [] h) (kk : res.1 = h.1 → J L xs l own cc nL ini d Q rc rs pc' lv (st) (res)) : J L xs l own cc nL ini d Q rc rs pc lv stk h := by
  refine j_callS (mc := 0) (ms := 0) dg hp hy hys hlk hd hst hsum hw (fun r h' z => Or.inr (Or.inr (Or.inr ⟨rfl, z.1⟩))) (Or.inl rfl) hJ (fun r h' hq hav h1 h2 => ?_)
  obtain ⟨rfl, rfl⟩ := hq
  exact kk (by omega)
theorem j_aSv {y : MethodName} {ccY : ByteArray} {nLY : Nat} {dY ix : Nat} {vs : List AV} {mc ms : Nat} {res : Hp} (dg : decode cc pc = .ok (.invokestatic ix, 3)) (hp : pc + 3 = pc') (hy : YM y ccY nLY (none) vs.length) (hys : Cond.static y ∈ gtb) (hlk : Cond.methodLink own ix y ∈ gtb) (hd : dY + 1 ≤ d) (hst : stk = vs.reverse ++ st) (hsum : (st.map catv).sum ≤ 8) (hw : awid vs ≤ nLY) (hl1 : avs h.1 st) (hl2 : avs h.1 (lv.map Prod.snd)) (hJ : J L xs l y.cls ccY nLY false dY (QV res) mc ms 0 (alv 0 vs) [] h) (kk : J L xs l own cc nL ini d Q rc rs pc' lv (st) (res)) : J L xs l own cc nL ini d Q (rc + mc) (rs + ms) pc lv stk h := by
  refine j_callS (mc := mc) (ms := ms) dg hp hy hys hlk hd hst hsum hw (fun r h' z => Or.inr (Or.inr (Or.inr ⟨rfl, z.1⟩))) (Or.inr ⟨hl1, hl2⟩) hJ (fun r h' hq hav h1 h2 => ?_)
  obtain ⟨rfl, rfl⟩ := hq
  exact kk
theorem j_aI {y : MethodName} {ccY : ByteArray} {nLY : Nat} {dY ix ci q : Nat} {vs : List AV} {mc ms : Nat} {res : Hp} (dg : decode cc pc = .ok (.invokespecial ix, 3)) (hp : pc + 3 = pc') (hy : YM y ccY nLY none vs.length) (hyn : y.name = "<init>") (hyi : Cond.instanceMethod y ∈ gtb) (hlk : Cond.methodLink own ix y ∈ gtb) (hd : dY + 1 ≤ d) (hst : stk = vs.reverse ++ vr q :: st) (hsum : (st.map catv).sum ≤ 8) (hw : awid (vr q :: vs) ≤ nLY) (hob : cob h ci q = some ()) (hl1 : avs h.1 st) (hl2 : avs h.1 (lv.map Prod.snd)) (hJ : J L xs l y.cls ccY nLY true dY (QV res) mc ms 0 (alv 0 (vr q :: vs)) [] h) (kk : J L xs l own cc nL ini d Q rc rs pc' lv st res) : J L xs l own cc nL ini d Q (rc + mc) (rs + ms) pc lv stk h := by
  refine j_callI (mc := mc) (ms := ms) dg hp hy hyn hyi hlk hd hst hsum hw hob (fun r h' z => Or.inr (Or.inr (Or.inr ⟨rfl, z.1⟩))) (Or.inr ⟨hl1, hl2⟩) hJ (fun r h' hq hav h1 h2 => ?_)
  obtain ⟨rfl, rfl⟩ := hq
  exact kk
theorem j_aN {y : MethodName} {ccY : ByteArray} {nLY : Nat} {dY ix ci q : Nat} {vs : List AV} {host : String} {mc ms : Nat} {res : Hp} (dg : decode cc pc = .ok (.invokespecial ix, 3)) (hp : pc + 3 = pc') (hy : YM y ccY nLY none vs.length) (hyn : y.name = "<init>") (hyi : Cond.instanceMethod y ∈ gtb) (hlk : Cond.methodLinkNest own ix y host ∈ nwl) (hd : dY + 1 ≤ d) (hst : stk = vs.reverse ++ vr q :: st) (hsum : (st.map catv).sum ≤ 8) (hw : awid (vr q :: vs) ≤ nLY) (hob : cob h ci q = some ()) (hl1 : avs h.1 st) (hl2 : avs h.1 (lv.map Prod.snd)) (hJ : J L xs l y.cls ccY nLY true dY (QV res) mc ms 0 (alv 0 (vr q :: vs)) [] h) (kk : J L xs l own cc nL ini d Q rc rs pc' lv st res) : J L xs l own cc nL ini d Q (rc + mc) (rs + ms) pc lv stk h := by
  refine j_callN (mc := mc) (ms := ms) dg hp hy hyn hyi hlk hd hst hsum hw hob (fun r h' z => Or.inr (Or.inr (Or.inr ⟨rfl, z.1⟩))) (Or.inr ⟨hl1, hl2⟩) hJ (fun r h' hq hav h1 h2 => ?_)
  obtain ⟨rfl, rfl⟩ := hq
  exact kk
theorem j_newp {ix ci N : Nat} {fs : List AV} {pp : Nat × Hp} (dg : decode cc pc = .ok (.new ix, 3)) (hp : pc + 3 = pc') (lk : NL own ix ci N fs) (hs : avs h.1 st) (hv : avs h.1 (lv.map Prod.snd)) (ee : newO h (obj ci fs) = some pp) (kk : J L xs l own cc nL ini d Q rc rs pc' lv (vr pp.1 :: st) pp.2) : J L xs l own cc nL ini d Q (rc + 1) (rs + N) pc lv st h := by
  cases ee; exact j_new dg hp lk hs hv kk
theorem j_newRp {z : Int} {N ix ci : Nat} {pp : Nat × Hp} (hN : z = (N : Int)) (hN2 : N < 100000) (dg : decode cc pc = .ok (.anewarray ix, 3)) (hp : pc + 3 = pc') (hw : Cond.classLink own ix (clN ci) ∈ gtb) (hci : clN ci = RX6 ∨ clN ci = RX7) (hs : avs h.1 st) (hv : avs h.1 (lv.map Prod.snd)) (ee : newO h (rar ci N (fun _ => 0)) = some pp) (kk : J L xs l own cc nL ini d Q rc rs pc' lv (vr pp.1 :: st) pp.2) : J L xs l own cc nL ini d Q (rc + 1) (rs + N) pc lv (vi z :: st) h := by
  cases ee; exact j_newR hN hN2 dg hp hw hci hs hv kk
theorem j_newIp {z : Int} {N : Nat} {pp : Nat × Hp} (hN : z = (N : Int)) (hN2 : N < 100000) (dg : decode cc pc = .ok (.newarray .int, 2)) (hp : pc + 2 = pc') (hw : Cond.arrayClass .int ∈ gtb) (hs : avs h.1 st) (hv : avs h.1 (lv.map Prod.snd)) (ee : newO h (arr 0 N (fun _ => 0)) = some pp) (kk : J L xs l own cc nL ini d Q rc rs pc' lv (vr pp.1 :: st) pp.2) : J L xs l own cc nL ini d Q (rc + 1) (rs + N) pc lv (vi z :: st) h := by
  cases ee; exact j_newI hN hN2 dg hp hw hs hv kk
theorem j_newLp {z : Int} {N : Nat} {pp : Nat × Hp} (hN : z = (N : Int)) (hN2 : N < 100000) (dg : decode cc pc = .ok (.newarray .long, 2)) (hp : pc + 2 = pc') (hw : Cond.arrayClass .long ∈ gtb) (hs : avs h.1 st) (hv : avs h.1 (lv.map Prod.snd)) (ee : newO h (arr 1 N (fun _ => 0)) = some pp) (kk : J L xs l own cc nL ini d Q rc rs pc' lv (vr pp.1 :: st) pp.2) : J L xs l own cc nL ini d Q (rc + 1) (rs + N) pc lv (vi z :: st) h := by
  cases ee; exact j_newL hN hN2 dg hp hw hs hv kk
theorem j_newZp {z : Int} {N : Nat} {pp : Nat × Hp} (hN : z = (N : Int)) (hN2 : N < 100000) (dg : decode cc pc = .ok (.newarray .boolean, 2)) (hp : pc + 2 = pc') (hw : Cond.arrayClass .boolean ∈ gtb) (hs : avs h.1 st) (hv : avs h.1 (lv.map Prod.snd)) (ee : newO h (arr 2 N (fun _ => 0)) = some pp) (kk : J L xs l own cc nL ini d Q rc rs pc' lv (vr pp.1 :: st) pp.2) : J L xs l own cc nL ini d Q (rc + 1) (rs + N) pc lv (vi z :: st) h := by
  cases ee; exact j_newZ hN hN2 dg hp hw hs hv kk
theorem gm {w : Cond} (i : Nat) (h : lw_tbl[i]? = some w) (hg : goodWord w = true) : w ∈ gtb := List.mem_filter.mpr ⟨List.mem_of_getElem? h, hg⟩
theorem gn {w : Cond} (i : Nat) (h : lw_tbl[i]? = some w) (hg : isNest w = true) : w ∈ nwl := List.mem_filter.mpr ⟨List.mem_of_getElem? h, hg⟩
end
end
section
theorem mx_eq {x y : Int} (hx : R32 x) (hy : R32 y) : (if Int32.ofInt x < Int32.ofInt y then Int32.ofInt y else Int32.ofInt x) = Int32.ofInt (max x y) := by
  by_cases h : x < y
  · rw [if_pos ((i32_lt hx hy).mpr h)]; congr 1; omega
  · rw [if_neg (fun z => h ((i32_lt hx hy).mp z))]; congr 1; omega
theorem mn_eq {x y : Int} (hx : R32 x) (hy : R32 y) : (if Int32.ofInt y < Int32.ofInt x then Int32.ofInt y else Int32.ofInt x) = Int32.ofInt (min x y) := by
  by_cases h : y < x
  · rw [if_pos ((i32_lt hy hx).mpr h)]; congr 1; omega
  · rw [if_neg (fun z => h ((i32_lt hy hx).mp z))]; congr 1; omega
theorem mxl_eq {x y : Int} (hx : R64 x) (hy : R64 y) : (if Int64.ofInt y < Int64.ofInt x then Int64.ofInt x else Int64.ofInt y) = Int64.ofInt (max x y) := by
  by_cases h : y < x
  · rw [if_pos ((i64_lt hy hx).mpr h)]; congr 1; omega
  · rw [if_neg (fun z => h ((i64_lt hy hx).mp z))]; congr 1; omega
theorem ab_eq {x : Int} (hx : R32 x) : (if 0 ≤ Int32.ofInt x then Int32.ofInt x else 0 - Int32.ofInt x) = Int32.ofInt (max x (-x)) := by
  have hz : (0 : Int32) = Int32.ofInt 0 := rfl
  by_cases h : 0 ≤ x
  · rw [if_pos (by rw [hz]; exact (i32_le z32 hx).mpr h)]; congr 1; omega
  · rw [if_neg (by rw [hz]; exact fun z => h ((i32_le z32 hx).mp z)), hz, ← Int32.ofInt_sub]; congr 1; omega
theorem R32_max {x y : Int} (hx : R32 x) (hy : R32 y) : R32 (max x y) := by obtain ⟨a, b⟩ := hx; obtain ⟨c, d⟩ := hy; exact ⟨by omega, by omega⟩
theorem R32_min {x y : Int} (hx : R32 x) (hy : R32 y) : R32 (min x y) := by obtain ⟨a, b⟩ := hx; obtain ⟨c, d⟩ := hy; exact ⟨by omega, by omega⟩
theorem R64_max {x y : Int} (hx : R64 x) (hy : R64 y) : R64 (max x y) := by obtain ⟨a, b⟩ := hx; obtain ⟨c, d⟩ := hy; exact ⟨by omega, by omega⟩
theorem mi_ : Cond.initialized "java/lang/Math" ∈ gtb := gm 67 (by decide +kernel) rfl
theorem st_mmax : Cond.static Lib.Math.max.name ∈ gtb := gm 479 (by decide +kernel) rfl
theorem co_mmax : Cond.code Lib.Math.max.name Lib.Math.max.code 2 (some .int) ∈ gtb := gm 480 (by decide +kernel) rfl
section
variable {L : Nat} {xs : Nat → Int32} {l : Launch} {own : String} {cc : ByteArray} {nL : Nat} {ini : Bool} {d : Nat} {Q : AV → Hp → Prop} {rc rs : Nat} {pc pc' : Nat} {lv lv' : List (Nat × AV)} {st : List AV} {h : Hp}
theorem j_mmax {x y : Int} {ix : Nat} (dg : decode cc pc = .ok (.invokestatic ix, 3)) (hp : pc + 3 = pc') (hlk : Cond.methodLink own ix Lib.Math.max.name ∈ gtb) (hd : 1 ≤ d) (hsum : (st.map catv).sum ≤ 8) (hx : R32 x) (hy : R32 y) (k : J L xs l own cc nL ini d Q rc rs pc' lv (vi (max x y) :: st) h) : J L xs l own cc nL ini d Q rc rs pc lv (vi y :: vi x :: st) h := by
  subst hp
  intro p en R s m args below meth c H locs cells slots TC TS n0 n1 D cA ad ad0 base b t ls Z X hl hR
  obtain ⟨y1, y2, y3, y4, y5, y6, y7, y8, y9, y10⟩ := X.2.1
  refine va_mmax X.1.1 X.1.2.1 (by rw [X.1.2.2.1]; exact hl.1.symm) X.1.2.2.2.1 (X.1.2.2.2.2.1 _ hlk) (X.1.2.2.2.2.1 _ st_mmax) (X.1.2.2.2.2.1 _ mi_) (X.1.2.2.2.2.1 _ co_mmax) (by omega) (by rw [catsum]; omega) (by omega) (by omega) dg ?_
  rw [mx_eq hx hy]
  exact k _ _ _ _ _ _ _ _ _ _ _ _ _ _ _ _ _ _ _ _ _ _ _ _ _ _ X hl hR
end
theorem st_mmin : Cond.static Lib.Math.min.name ∈ gtb := gm 403 (by decide +kernel) rfl
theorem co_mmin : Cond.code Lib.Math.min.name Lib.Math.min.code 2 (some .int) ∈ gtb := gm 404 (by decide +kernel) rfl
section
variable {L : Nat} {xs : Nat → Int32} {l : Launch} {own : String} {cc : ByteArray} {nL : Nat} {ini : Bool} {d : Nat} {Q : AV → Hp → Prop} {rc rs : Nat} {pc pc' : Nat} {lv lv' : List (Nat × AV)} {st : List AV} {h : Hp}
theorem j_mmin {x y : Int} {ix : Nat} (dg : decode cc pc = .ok (.invokestatic ix, 3)) (hp : pc + 3 = pc') (hlk : Cond.methodLink own ix Lib.Math.min.name ∈ gtb) (hd : 1 ≤ d) (hsum : (st.map catv).sum ≤ 8) (hx : R32 x) (hy : R32 y) (k : J L xs l own cc nL ini d Q rc rs pc' lv (vi (min x y) :: st) h) : J L xs l own cc nL ini d Q rc rs pc lv (vi y :: vi x :: st) h := by
  subst hp
  intro p en R s m args below meth c H locs cells slots TC TS n0 n1 D cA ad ad0 base b t ls Z X hl hR
  obtain ⟨y1, y2, y3, y4, y5, y6, y7, y8, y9, y10⟩ := X.2.1
  refine va_mmin X.1.1 X.1.2.1 (by rw [X.1.2.2.1]; exact hl.1.symm) X.1.2.2.2.1 (X.1.2.2.2.2.1 _ hlk) (X.1.2.2.2.2.1 _ st_mmin) (X.1.2.2.2.2.1 _ mi_) (X.1.2.2.2.2.1 _ co_mmin) (by omega) (by rw [catsum]; omega) (by omega) (by omega) dg ?_
  rw [mn_eq hx hy]
  exact k _ _ _ _ _ _ _ _ _ _ _ _ _ _ _ _ _ _ _ _ _ _ _ _ _ _ X hl hR
end
theorem st_mabs : Cond.static Lib.Math.abs.name ∈ gtb := gm 476 (by decide +kernel) rfl
theorem co_mabs : Cond.code Lib.Math.abs.name Lib.Math.abs.code 1 (some .int) ∈ gtb := gm 477 (by decide +kernel) rfl
section
variable {L : Nat} {xs : Nat → Int32} {l : Launch} {own : String} {cc : ByteArray} {nL : Nat} {ini : Bool} {d : Nat} {Q : AV → Hp → Prop} {rc rs : Nat} {pc pc' : Nat} {lv lv' : List (Nat × AV)} {st : List AV} {h : Hp}
theorem j_mabs {x : Int} {ix : Nat} (dg : decode cc pc = .ok (.invokestatic ix, 3)) (hp : pc + 3 = pc') (hlk : Cond.methodLink own ix Lib.Math.abs.name ∈ gtb) (hd : 1 ≤ d) (hsum : (st.map catv).sum ≤ 8) (hx : R32 x) (k : J L xs l own cc nL ini d Q rc rs pc' lv (vi (max x (-x)) :: st) h) : J L xs l own cc nL ini d Q rc rs pc lv (vi x :: st) h := by
  subst hp
  intro p en R s m args below meth c H locs cells slots TC TS n0 n1 D cA ad ad0 base b t ls Z X hl hR
  obtain ⟨y1, y2, y3, y4, y5, y6, y7, y8, y9, y10⟩ := X.2.1
  refine va_mabs X.1.1 X.1.2.1 (by rw [X.1.2.2.1]; exact hl.1.symm) X.1.2.2.2.1 (X.1.2.2.2.2.1 _ hlk) (X.1.2.2.2.2.1 _ st_mabs) (X.1.2.2.2.2.1 _ mi_) (X.1.2.2.2.2.1 _ co_mabs) (by omega) (by rw [catsum]; omega) (by omega) (by omega) dg ?_
  rw [ab_eq hx]
  exact k _ _ _ _ _ _ _ _ _ _ _ _ _ _ _ _ _ _ _ _ _ _ _ _ _ _ X hl hR
end
theorem st_mmaxl : Cond.static Lib.MathLoose.max_long.x ∈ gtb := gm 569 (by decide +kernel) rfl
theorem co_mmaxl : Cond.code Lib.MathLoose.max_long.x Lib.MathLoose.max_long.code 4 (some .long) ∈ gtb := gm 570 (by decide +kernel) rfl
section
variable {L : Nat} {xs : Nat → Int32} {l : Launch} {own : String} {cc : ByteArray} {nL : Nat} {ini : Bool} {d : Nat} {Q : AV → Hp → Prop} {rc rs : Nat} {pc pc' : Nat} {lv lv' : List (Nat × AV)} {st : List AV} {h : Hp}
theorem j_mmaxl {x y : Int} {ix : Nat} (dg : decode cc pc = .ok (.invokestatic ix, 3)) (hp : pc + 3 = pc') (hlk : Cond.methodLink own ix Lib.MathLoose.max_long.x ∈ gtb) (hd : 1 ≤ d) (hsum : (st.map catv).sum ≤ 8) (hx : R64 x) (hy : R64 y) (k : J L xs l own cc nL ini d Q rc rs pc' lv (vl (max x y) :: st) h) : J L xs l own cc nL ini d Q rc rs pc lv (vl y :: vl x :: st) h := by
  subst hp
  intro p en R s m args below meth c H locs cells slots TC TS n0 n1 D cA ad ad0 base b t ls Z X hl hR
  obtain ⟨y1, y2, y3, y4, y5, y6, y7, y8, y9, y10⟩ := X.2.1
  refine va_mmax_long X.1.1 X.1.2.1 (by rw [X.1.2.2.1]; exact hl.1.symm) X.1.2.2.2.1 (X.1.2.2.2.2.1 _ hlk) (X.1.2.2.2.2.1 _ st_mmaxl) (X.1.2.2.2.2.1 _ mi_) (X.1.2.2.2.2.1 _ co_mmaxl) (by omega) (by rw [catsum]; omega) (by omega) (by omega) dg ?_
  rw [mxl_eq hx hy]
  exact k _ _ _ _ _ _ _ _ _ _ _ _ _ _ _ _ _ _ _ _ _ _ _ _ _ _ X hl hR
end
end
