theorem dX6_membersOf_17 : decode cX6_membersOf 17 = .ok (.iaload, 1) := by decide +kernel
theorem dX6_membersOf_18 : decode cX6_membersOf 18 = .ok (.iload_n 1, 1) := by decide +kernel
theorem dX6_membersOf_19 : decode cX6_membersOf 19 = .ok (.if_icmp .ne 9, 3) := by decide +kernel
theorem dX6_membersOf_22 : decode cX6_membersOf 22 = .ok (.iload_n 2, 1) := by decide +kernel
theorem dX6_membersOf_23 : decode cX6_membersOf 23 = .ok (.iconst 1, 1) := by decide +kernel
theorem dX6_membersOf_24 : decode cX6_membersOf 24 = .ok (.iload_n 3, 1) := by decide +kernel
theorem dX6_membersOf_25 : decode cX6_membersOf 25 = .ok (.ishl, 1) := by decide +kernel
theorem dX6_membersOf_26 : decode cX6_membersOf 26 = .ok (.ior, 1) := by decide +kernel
theorem dX6_membersOf_27 : decode cX6_membersOf 27 = .ok (.istore_n 2, 1) := by decide +kernel
theorem dX6_membersOf_28 : decode cX6_membersOf 28 = .ok (.iinc 3 1, 3) := by decide +kernel
theorem dX6_membersOf_31 : decode cX6_membersOf 31 = .ok (.goto (-27), 3) := by decide +kernel
theorem dX6_membersOf_34 : decode cX6_membersOf 34 = .ok (.iload_n 2, 1) := by decide +kernel
theorem dX6_membersOf_35 : decode cX6_membersOf 35 = .ok (.ireturn, 1) := by decide +kernel
theorem dX6_pairsApart_0 : decode cX6_pairsApart 0 = .ok (.iconst 0, 1) := by decide +kernel
theorem dX6_pairsApart_1 : decode cX6_pairsApart 1 = .ok (.istore_n 2, 1) := by decide +kernel
theorem dX6_pairsApart_2 : decode cX6_pairsApart 2 = .ok (.iconst 1, 1) := by decide +kernel
theorem dX6_pairsApart_3 : decode cX6_pairsApart 3 = .ok (.istore_n 3, 1) := by decide +kernel
theorem dX6_pairsApart_4 : decode cX6_pairsApart 4 = .ok (.iload_n 3, 1) := by decide +kernel
theorem dX6_pairsApart_5 : decode cX6_pairsApart 5 = .ok (.aload_n 0, 1) := by decide +kernel
theorem dX6_pairsApart_6 : decode cX6_pairsApart 6 = .ok (.getfield 9, 3) := by decide +kernel
theorem dX6_pairsApart_9 : decode cX6_pairsApart 9 = .ok (.if_icmp .ge 85, 3) := by decide +kernel
theorem dX6_pairsApart_12 : decode cX6_pairsApart 12 = .ok (.iconst 0, 1) := by decide +kernel
theorem dX6_pairsApart_13 : decode cX6_pairsApart 13 = .ok (.istore 4, 2) := by decide +kernel
theorem dX6_pairsApart_15 : decode cX6_pairsApart 15 = .ok (.iload 4, 2) := by decide +kernel
theorem dX6_pairsApart_17 : decode cX6_pairsApart 17 = .ok (.iload_n 3, 1) := by decide +kernel
theorem dX6_pairsApart_18 : decode cX6_pairsApart 18 = .ok (.if_icmp .ge 70, 3) := by decide +kernel
theorem dX6_pairsApart_21 : decode cX6_pairsApart 21 = .ok (.aload_n 0, 1) := by decide +kernel
theorem dX6_pairsApart_22 : decode cX6_pairsApart 22 = .ok (.getfield 18, 3) := by decide +kernel
theorem dX6_pairsApart_25 : decode cX6_pairsApart 25 = .ok (.iload_n 3, 1) := by decide +kernel
theorem dX6_pairsApart_26 : decode cX6_pairsApart 26 = .ok (.iaload, 1) := by decide +kernel
theorem dX6_pairsApart_27 : decode cX6_pairsApart 27 = .ok (.aload_n 0, 1) := by decide +kernel
theorem dX6_pairsApart_28 : decode cX6_pairsApart 28 = .ok (.getfield 18, 3) := by decide +kernel
theorem dX6_pairsApart_31 : decode cX6_pairsApart 31 = .ok (.iload 4, 2) := by decide +kernel
theorem dX6_pairsApart_33 : decode cX6_pairsApart 33 = .ok (.iaload, 1) := by decide +kernel
theorem dX6_pairsApart_34 : decode cX6_pairsApart 34 = .ok (.if_icmp .ne 7, 3) := by decide +kernel
theorem dX6_pairsApart_37 : decode cX6_pairsApart 37 = .ok (.iconst 1, 1) := by decide +kernel
theorem dX6_pairsApart_38 : decode cX6_pairsApart 38 = .ok (.goto 4, 3) := by decide +kernel
theorem dX6_pairsApart_41 : decode cX6_pairsApart 41 = .ok (.iconst 0, 1) := by decide +kernel
theorem dX6_pairsApart_42 : decode cX6_pairsApart 42 = .ok (.istore 5, 2) := by decide +kernel
theorem dX6_pairsApart_44 : decode cX6_pairsApart 44 = .ok (.aload_n 1, 1) := by decide +kernel
theorem dX6_pairsApart_45 : decode cX6_pairsApart 45 = .ok (.getfield 18, 3) := by decide +kernel
theorem dX6_pairsApart_48 : decode cX6_pairsApart 48 = .ok (.iload_n 3, 1) := by decide +kernel
theorem dX6_pairsApart_49 : decode cX6_pairsApart 49 = .ok (.iaload, 1) := by decide +kernel
theorem dX6_pairsApart_50 : decode cX6_pairsApart 50 = .ok (.aload_n 1, 1) := by decide +kernel
theorem dX6_pairsApart_51 : decode cX6_pairsApart 51 = .ok (.getfield 18, 3) := by decide +kernel
theorem dX6_pairsApart_54 : decode cX6_pairsApart 54 = .ok (.iload 4, 2) := by decide +kernel
theorem dX6_pairsApart_56 : decode cX6_pairsApart 56 = .ok (.iaload, 1) := by decide +kernel
theorem dX6_pairsApart_57 : decode cX6_pairsApart 57 = .ok (.if_icmp .ne 7, 3) := by decide +kernel
theorem dX6_pairsApart_60 : decode cX6_pairsApart 60 = .ok (.iconst 1, 1) := by decide +kernel
theorem dX6_pairsApart_61 : decode cX6_pairsApart 61 = .ok (.goto 4, 3) := by decide +kernel
theorem dX6_pairsApart_64 : decode cX6_pairsApart 64 = .ok (.iconst 0, 1) := by decide +kernel
theorem dX6_pairsApart_65 : decode cX6_pairsApart 65 = .ok (.istore 6, 2) := by decide +kernel
theorem dX6_pairsApart_67 : decode cX6_pairsApart 67 = .ok (.iload_n 2, 1) := by decide +kernel
theorem dX6_pairsApart_68 : decode cX6_pairsApart 68 = .ok (.iload 5, 2) := by decide +kernel
theorem dX6_pairsApart_70 : decode cX6_pairsApart 70 = .ok (.iload 6, 2) := by decide +kernel
theorem dX6_pairsApart_72 : decode cX6_pairsApart 72 = .ok (.if_icmp .eq 7, 3) := by decide +kernel
theorem dX6_pairsApart_75 : decode cX6_pairsApart 75 = .ok (.iconst 1, 1) := by decide +kernel
theorem dX6_pairsApart_76 : decode cX6_pairsApart 76 = .ok (.goto 4, 3) := by decide +kernel
theorem dX6_pairsApart_79 : decode cX6_pairsApart 79 = .ok (.iconst 0, 1) := by decide +kernel
theorem dX6_pairsApart_80 : decode cX6_pairsApart 80 = .ok (.iadd, 1) := by decide +kernel
theorem dX6_pairsApart_81 : decode cX6_pairsApart 81 = .ok (.istore_n 2, 1) := by decide +kernel
theorem dX6_pairsApart_82 : decode cX6_pairsApart 82 = .ok (.iinc 4 1, 3) := by decide +kernel
theorem dX6_pairsApart_85 : decode cX6_pairsApart 85 = .ok (.goto (-70), 3) := by decide +kernel
theorem dX6_pairsApart_88 : decode cX6_pairsApart 88 = .ok (.iinc 3 1, 3) := by decide +kernel
theorem dX6_pairsApart_91 : decode cX6_pairsApart 91 = .ok (.goto (-87), 3) := by decide +kernel
theorem dX6_pairsApart_94 : decode cX6_pairsApart 94 = .ok (.iload_n 2, 1) := by decide +kernel
theorem dX6_pairsApart_95 : decode cX6_pairsApart 95 = .ok (.ireturn, 1) := by decide +kernel
theorem dX6_meet_0 : decode cX6_meet 0 = .ok (.aload_n 0, 1) := by decide +kernel
theorem dX6_meet_1 : decode cX6_meet 1 = .ok (.iconst 0, 1) := by decide +kernel
theorem dX6_meet_2 : decode cX6_meet 2 = .ok (.putfield 15, 3) := by decide +kernel
theorem dX6_meet_5 : decode cX6_meet 5 = .ok (.iconst 0, 1) := by decide +kernel
theorem dX6_meet_6 : decode cX6_meet 6 = .ok (.istore_n 2, 1) := by decide +kernel
theorem dX6_meet_7 : decode cX6_meet 7 = .ok (.iload_n 2, 1) := by decide +kernel
theorem dX6_meet_8 : decode cX6_meet 8 = .ok (.aload_n 0, 1) := by decide +kernel
theorem dX6_meet_9 : decode cX6_meet 9 = .ok (.getfield 9, 3) := by decide +kernel
theorem dX6_meet_12 : decode cX6_meet 12 = .ok (.if_icmp .ge 111, 3) := by decide +kernel
theorem dX6_meet_15 : decode cX6_meet 15 = .ok (.aload_n 0, 1) := by decide +kernel
theorem dX6_meet_16 : decode cX6_meet 16 = .ok (.getfield 22, 3) := by decide +kernel
theorem dX6_meet_19 : decode cX6_meet 19 = .ok (.iload_n 2, 1) := by decide +kernel
theorem dX6_meet_20 : decode cX6_meet 20 = .ok (.iconst (-1), 1) := by decide +kernel
theorem dX6_meet_21 : decode cX6_meet 21 = .ok (.iastore, 1) := by decide +kernel
theorem dX6_meet_22 : decode cX6_meet 22 = .ok (.iconst 0, 1) := by decide +kernel
theorem dX6_meet_23 : decode cX6_meet 23 = .ok (.istore_n 3, 1) := by decide +kernel
theorem dX6_meet_24 : decode cX6_meet 24 = .ok (.iload_n 3, 1) := by decide +kernel
theorem dX6_meet_25 : decode cX6_meet 25 = .ok (.iload_n 2, 1) := by decide +kernel
theorem dX6_meet_26 : decode cX6_meet 26 = .ok (.if_icmp .ge 61, 3) := by decide +kernel
theorem dX6_meet_29 : decode cX6_meet 29 = .ok (.aload_n 0, 1) := by decide +kernel
theorem dX6_meet_30 : decode cX6_meet 30 = .ok (.getfield 22, 3) := by decide +kernel
theorem dX6_meet_33 : decode cX6_meet 33 = .ok (.iload_n 2, 1) := by decide +kernel
theorem dX6_meet_34 : decode cX6_meet 34 = .ok (.iaload, 1) := by decide +kernel
theorem dX6_meet_35 : decode cX6_meet 35 = .ok (.iconst (-1), 1) := by decide +kernel
theorem dX6_meet_36 : decode cX6_meet 36 = .ok (.if_icmp .ne 51, 3) := by decide +kernel
theorem dX6_meet_39 : decode cX6_meet 39 = .ok (.aload_n 0, 1) := by decide +kernel
theorem dX6_meet_40 : decode cX6_meet 40 = .ok (.getfield 18, 3) := by decide +kernel
theorem dX6_meet_43 : decode cX6_meet 43 = .ok (.iload_n 3, 1) := by decide +kernel
theorem dX6_meet_44 : decode cX6_meet 44 = .ok (.iaload, 1) := by decide +kernel
theorem dX6_meet_45 : decode cX6_meet 45 = .ok (.aload_n 0, 1) := by decide +kernel
theorem dX6_meet_46 : decode cX6_meet 46 = .ok (.getfield 18, 3) := by decide +kernel
theorem dX6_meet_49 : decode cX6_meet 49 = .ok (.iload_n 2, 1) := by decide +kernel
theorem dX6_meet_50 : decode cX6_meet 50 = .ok (.iaload, 1) := by decide +kernel
theorem dX6_meet_51 : decode cX6_meet 51 = .ok (.if_icmp .ne 30, 3) := by decide +kernel
theorem dX6_meet_54 : decode cX6_meet 54 = .ok (.aload_n 1, 1) := by decide +kernel
theorem dX6_meet_55 : decode cX6_meet 55 = .ok (.getfield 18, 3) := by decide +kernel
theorem dX6_meet_58 : decode cX6_meet 58 = .ok (.iload_n 3, 1) := by decide +kernel
theorem dX6_meet_59 : decode cX6_meet 59 = .ok (.iaload, 1) := by decide +kernel
theorem dX6_meet_60 : decode cX6_meet 60 = .ok (.aload_n 1, 1) := by decide +kernel
theorem dX6_meet_61 : decode cX6_meet 61 = .ok (.getfield 18, 3) := by decide +kernel
theorem dX6_meet_64 : decode cX6_meet 64 = .ok (.iload_n 2, 1) := by decide +kernel
theorem dX6_meet_65 : decode cX6_meet 65 = .ok (.iaload, 1) := by decide +kernel
theorem dX6_meet_66 : decode cX6_meet 66 = .ok (.if_icmp .ne 15, 3) := by decide +kernel
theorem dX6_meet_69 : decode cX6_meet 69 = .ok (.aload_n 0, 1) := by decide +kernel
theorem dX6_meet_70 : decode cX6_meet 70 = .ok (.getfield 22, 3) := by decide +kernel
theorem dX6_meet_73 : decode cX6_meet 73 = .ok (.iload_n 2, 1) := by decide +kernel
theorem dX6_meet_74 : decode cX6_meet 74 = .ok (.aload_n 0, 1) := by decide +kernel
theorem dX6_meet_75 : decode cX6_meet 75 = .ok (.getfield 22, 3) := by decide +kernel
theorem dX6_meet_78 : decode cX6_meet 78 = .ok (.iload_n 3, 1) := by decide +kernel
theorem dX6_meet_79 : decode cX6_meet 79 = .ok (.iaload, 1) := by decide +kernel
theorem dX6_meet_80 : decode cX6_meet 80 = .ok (.iastore, 1) := by decide +kernel
theorem dX6_meet_81 : decode cX6_meet 81 = .ok (.iinc 3 1, 3) := by decide +kernel
theorem dX6_meet_84 : decode cX6_meet 84 = .ok (.goto (-60), 3) := by decide +kernel
theorem dX6_meet_87 : decode cX6_meet 87 = .ok (.aload_n 0, 1) := by decide +kernel
theorem dX6_meet_88 : decode cX6_meet 88 = .ok (.getfield 22, 3) := by decide +kernel
theorem dX6_meet_91 : decode cX6_meet 91 = .ok (.iload_n 2, 1) := by decide +kernel
theorem dX6_meet_92 : decode cX6_meet 92 = .ok (.iaload, 1) := by decide +kernel
theorem dX6_meet_93 : decode cX6_meet 93 = .ok (.iconst (-1), 1) := by decide +kernel
theorem dX6_meet_94 : decode cX6_meet 94 = .ok (.if_icmp .ne 23, 3) := by decide +kernel
theorem dX6_meet_97 : decode cX6_meet 97 = .ok (.aload_n 0, 1) := by decide +kernel
theorem dX6_meet_98 : decode cX6_meet 98 = .ok (.getfield 22, 3) := by decide +kernel
theorem dX6_meet_101 : decode cX6_meet 101 = .ok (.iload_n 2, 1) := by decide +kernel
theorem dX6_meet_102 : decode cX6_meet 102 = .ok (.aload_n 0, 1) := by decide +kernel
theorem dX6_meet_103 : decode cX6_meet 103 = .ok (.getfield 15, 3) := by decide +kernel
theorem dX6_meet_106 : decode cX6_meet 106 = .ok (.iastore, 1) := by decide +kernel
theorem dX6_meet_107 : decode cX6_meet 107 = .ok (.aload_n 0, 1) := by decide +kernel
theorem dX6_meet_108 : decode cX6_meet 108 = .ok (.dup, 1) := by decide +kernel
theorem dX6_meet_109 : decode cX6_meet 109 = .ok (.getfield 15, 3) := by decide +kernel
theorem dX6_meet_112 : decode cX6_meet 112 = .ok (.iconst 1, 1) := by decide +kernel
theorem dX6_meet_113 : decode cX6_meet 113 = .ok (.iadd, 1) := by decide +kernel
theorem dX6_meet_114 : decode cX6_meet 114 = .ok (.putfield 15, 3) := by decide +kernel
theorem dX6_meet_117 : decode cX6_meet 117 = .ok (.iinc 2 1, 3) := by decide +kernel
theorem dX6_meet_120 : decode cX6_meet 120 = .ok (.goto (-113), 3) := by decide +kernel
theorem dX6_meet_123 : decode cX6_meet 123 = .ok (.aload_n 0, 1) := by decide +kernel
theorem dX6_meet_124 : decode cX6_meet 124 = .ok (.getfield 22, 3) := by decide +kernel
theorem dX6_meet_127 : decode cX6_meet 127 = .ok (.iconst 0, 1) := by decide +kernel
theorem dX6_meet_128 : decode cX6_meet 128 = .ok (.aload_n 0, 1) := by decide +kernel
theorem dX6_meet_129 : decode cX6_meet 129 = .ok (.getfield 18, 3) := by decide +kernel
theorem dX6_meet_132 : decode cX6_meet 132 = .ok (.iconst 0, 1) := by decide +kernel
theorem dX6_meet_133 : decode cX6_meet 133 = .ok (.aload_n 0, 1) := by decide +kernel
theorem dX6_meet_134 : decode cX6_meet 134 = .ok (.getfield 9, 3) := by decide +kernel
theorem dX6_meet_137 : decode cX6_meet 137 = .ok (.invokestatic 25, 3) := by decide +kernel
theorem dX6_meet_140 : decode cX6_meet 140 = .ok (.return_, 1) := by decide +kernel
theorem dX6_standsAhead_0 : decode cX6_standsAhead 0 = .ok (.iconst 0, 1) := by decide +kernel
theorem dX6_standsAhead_1 : decode cX6_standsAhead 1 = .ok (.istore_n 2, 1) := by decide +kernel
theorem dX6_standsAhead_2 : decode cX6_standsAhead 2 = .ok (.iload_n 2, 1) := by decide +kernel
theorem dX6_standsAhead_3 : decode cX6_standsAhead 3 = .ok (.aload_n 0, 1) := by decide +kernel
theorem dX6_standsAhead_4 : decode cX6_standsAhead 4 = .ok (.getfield 9, 3) := by decide +kernel
theorem dX6_standsAhead_7 : decode cX6_standsAhead 7 = .ok (.if_icmp .ge 45, 3) := by decide +kernel
theorem dX6_standsAhead_10 : decode cX6_standsAhead 10 = .ok (.aload_n 0, 1) := by decide +kernel
theorem dX6_standsAhead_11 : decode cX6_standsAhead 11 = .ok (.getfield 18, 3) := by decide +kernel
theorem dX6_standsAhead_14 : decode cX6_standsAhead 14 = .ok (.iload_n 2, 1) := by decide +kernel
theorem dX6_standsAhead_15 : decode cX6_standsAhead 15 = .ok (.iaload, 1) := by decide +kernel
theorem dX6_standsAhead_16 : decode cX6_standsAhead 16 = .ok (.aload_n 1, 1) := by decide +kernel
theorem dX6_standsAhead_17 : decode cX6_standsAhead 17 = .ok (.getfield 18, 3) := by decide +kernel
theorem dX6_standsAhead_20 : decode cX6_standsAhead 20 = .ok (.iload_n 2, 1) := by decide +kernel
theorem dX6_standsAhead_21 : decode cX6_standsAhead 21 = .ok (.iaload, 1) := by decide +kernel
theorem dX6_standsAhead_22 : decode cX6_standsAhead 22 = .ok (.if_icmp .eq 24, 3) := by decide +kernel
theorem dX6_standsAhead_25 : decode cX6_standsAhead 25 = .ok (.aload_n 0, 1) := by decide +kernel
theorem dX6_standsAhead_26 : decode cX6_standsAhead 26 = .ok (.getfield 18, 3) := by decide +kernel
theorem dX6_standsAhead_29 : decode cX6_standsAhead 29 = .ok (.iload_n 2, 1) := by decide +kernel
theorem dX6_standsAhead_30 : decode cX6_standsAhead 30 = .ok (.iaload, 1) := by decide +kernel
theorem dX6_standsAhead_31 : decode cX6_standsAhead 31 = .ok (.aload_n 1, 1) := by decide +kernel
theorem dX6_standsAhead_32 : decode cX6_standsAhead 32 = .ok (.getfield 18, 3) := by decide +kernel
theorem dX6_standsAhead_35 : decode cX6_standsAhead 35 = .ok (.iload_n 2, 1) := by decide +kernel
theorem dX6_standsAhead_36 : decode cX6_standsAhead 36 = .ok (.iaload, 1) := by decide +kernel
theorem dX6_standsAhead_37 : decode cX6_standsAhead 37 = .ok (.if_icmp .ge 7, 3) := by decide +kernel
theorem dX6_standsAhead_40 : decode cX6_standsAhead 40 = .ok (.iconst 1, 1) := by decide +kernel
theorem dX6_standsAhead_41 : decode cX6_standsAhead 41 = .ok (.goto 4, 3) := by decide +kernel
theorem dX6_standsAhead_44 : decode cX6_standsAhead 44 = .ok (.iconst 0, 1) := by decide +kernel
theorem dX6_standsAhead_45 : decode cX6_standsAhead 45 = .ok (.ireturn, 1) := by decide +kernel
theorem dX6_standsAhead_46 : decode cX6_standsAhead 46 = .ok (.iinc 2 1, 3) := by decide +kernel
theorem dX6_standsAhead_49 : decode cX6_standsAhead 49 = .ok (.goto (-47), 3) := by decide +kernel
theorem dX6_standsAhead_52 : decode cX6_standsAhead 52 = .ok (.iconst 0, 1) := by decide +kernel
theorem dX6_standsAhead_53 : decode cX6_standsAhead 53 = .ok (.ireturn, 1) := by decide +kernel
theorem dX7_init_0 : decode cX7_init 0 = .ok (.aload_n 0, 1) := by decide +kernel
theorem dX7_init_1 : decode cX7_init 1 = .ok (.invokespecial 3, 3) := by decide +kernel
theorem dX7_init_4 : decode cX7_init 4 = .ok (.aload_n 0, 1) := by decide +kernel
theorem dX7_init_5 : decode cX7_init 5 = .ok (.iconst 1, 1) := by decide +kernel
theorem dX7_init_6 : decode cX7_init 6 = .ok (.putfield 9, 3) := by decide +kernel
theorem dX7_init_9 : decode cX7_init 9 = .ok (.aload_n 0, 1) := by decide +kernel
theorem dX7_init_10 : decode cX7_init 10 = .ok (.bipush 48, 2) := by decide +kernel
theorem dX7_init_12 : decode cX7_init 12 = .ok (.newarray .int, 2) := by decide +kernel
theorem dX7_init_14 : decode cX7_init 14 = .ok (.putfield 15, 3) := by decide +kernel
theorem dX7_init_17 : decode cX7_init 17 = .ok (.aload_n 0, 1) := by decide +kernel
theorem dX7_init_18 : decode cX7_init 18 = .ok (.sipush 144, 3) := by decide +kernel
theorem dX7_init_21 : decode cX7_init 21 = .ok (.newarray .int, 2) := by decide +kernel
theorem dX7_init_23 : decode cX7_init 23 = .ok (.putfield 19, 3) := by decide +kernel
theorem dX7_init_26 : decode cX7_init 26 = .ok (.aload_n 0, 1) := by decide +kernel
theorem dX7_init_27 : decode cX7_init 27 = .ok (.sipush 144, 3) := by decide +kernel
theorem dX7_init_30 : decode cX7_init 30 = .ok (.newarray .int, 2) := by decide +kernel
theorem dX7_init_32 : decode cX7_init 32 = .ok (.putfield 22, 3) := by decide +kernel
theorem dX7_init_35 : decode cX7_init 35 = .ok (.aload_n 0, 1) := by decide +kernel
theorem dX7_init_36 : decode cX7_init 36 = .ok (.sipush 144, 3) := by decide +kernel
theorem dX7_init_39 : decode cX7_init 39 = .ok (.newarray .int, 2) := by decide +kernel
theorem dX7_init_41 : decode cX7_init 41 = .ok (.putfield 25, 3) := by decide +kernel
theorem dX7_init_44 : decode cX7_init 44 = .ok (.aload_n 0, 1) := by decide +kernel
theorem dX7_init_45 : decode cX7_init 45 = .ok (.new 28, 3) := by decide +kernel
theorem dX7_init_48 : decode cX7_init 48 = .ok (.dup, 1) := by decide +kernel
theorem dX7_init_49 : decode cX7_init 49 = .ok (.invokespecial 30, 3) := by decide +kernel
theorem dX7_init_52 : decode cX7_init 52 = .ok (.putfield 31, 3) := by decide +kernel
theorem dX7_init_55 : decode cX7_init 55 = .ok (.return_, 1) := by decide +kernel
theorem dX7_restart_0 : decode cX7_restart 0 = .ok (.aload_n 0, 1) := by decide +kernel
theorem dX7_restart_1 : decode cX7_restart 1 = .ok (.iload_n 1, 1) := by decide +kernel
theorem dX7_restart_2 : decode cX7_restart 2 = .ok (.putfield 9, 3) := by decide +kernel
theorem dX7_restart_5 : decode cX7_restart 5 = .ok (.aload_n 0, 1) := by decide +kernel
theorem dX7_restart_6 : decode cX7_restart 6 = .ok (.getfield 15, 3) := by decide +kernel
theorem dX7_restart_9 : decode cX7_restart 9 = .ok (.iconst 0, 1) := by decide +kernel
theorem dX7_restart_10 : decode cX7_restart 10 = .ok (.invokestatic 35, 3) := by decide +kernel
theorem dX7_restart_13 : decode cX7_restart 13 = .ok (.aload_n 0, 1) := by decide +kernel
theorem dX7_restart_14 : decode cX7_restart 14 = .ok (.getfield 19, 3) := by decide +kernel
theorem dX7_restart_17 : decode cX7_restart 17 = .ok (.iconst 0, 1) := by decide +kernel
theorem dX7_restart_18 : decode cX7_restart 18 = .ok (.invokestatic 35, 3) := by decide +kernel
theorem dX7_restart_21 : decode cX7_restart 21 = .ok (.aload_n 0, 1) := by decide +kernel
theorem dX7_restart_22 : decode cX7_restart 22 = .ok (.getfield 22, 3) := by decide +kernel
theorem dX7_restart_25 : decode cX7_restart 25 = .ok (.iconst 0, 1) := by decide +kernel
theorem dX7_restart_26 : decode cX7_restart 26 = .ok (.invokestatic 35, 3) := by decide +kernel
theorem dX7_restart_29 : decode cX7_restart 29 = .ok (.aload_n 0, 1) := by decide +kernel
theorem dX7_restart_30 : decode cX7_restart 30 = .ok (.getfield 25, 3) := by decide +kernel
theorem dX7_restart_33 : decode cX7_restart 33 = .ok (.iconst 0, 1) := by decide +kernel
theorem dX7_restart_34 : decode cX7_restart 34 = .ok (.invokestatic 35, 3) := by decide +kernel
theorem dX7_restart_37 : decode cX7_restart 37 = .ok (.aload_n 0, 1) := by decide +kernel
theorem dX7_restart_38 : decode cX7_restart 38 = .ok (.getfield 31, 3) := by decide +kernel
theorem dX7_restart_41 : decode cX7_restart 41 = .ok (.iload_n 1, 1) := by decide +kernel
theorem dX7_restart_42 : decode cX7_restart 42 = .ok (.invokevirtual 41, 3) := by decide +kernel
theorem dX7_restart_45 : decode cX7_restart 45 = .ok (.return_, 1) := by decide +kernel
theorem dX7_copyFrom_0 : decode cX7_copyFrom 0 = .ok (.aload_n 0, 1) := by decide +kernel
theorem dX7_copyFrom_1 : decode cX7_copyFrom 1 = .ok (.aload_n 1, 1) := by decide +kernel
theorem dX7_copyFrom_2 : decode cX7_copyFrom 2 = .ok (.getfield 9, 3) := by decide +kernel
theorem dX7_copyFrom_5 : decode cX7_copyFrom 5 = .ok (.putfield 9, 3) := by decide +kernel
theorem dX7_copyFrom_8 : decode cX7_copyFrom 8 = .ok (.aload_n 1, 1) := by decide +kernel
theorem dX7_copyFrom_9 : decode cX7_copyFrom 9 = .ok (.getfield 15, 3) := by decide +kernel
theorem dX7_copyFrom_12 : decode cX7_copyFrom 12 = .ok (.iconst 0, 1) := by decide +kernel
theorem dX7_copyFrom_13 : decode cX7_copyFrom 13 = .ok (.aload_n 0, 1) := by decide +kernel
theorem dX7_copyFrom_14 : decode cX7_copyFrom 14 = .ok (.getfield 15, 3) := by decide +kernel
theorem dX7_copyFrom_17 : decode cX7_copyFrom 17 = .ok (.iconst 0, 1) := by decide +kernel
theorem dX7_copyFrom_18 : decode cX7_copyFrom 18 = .ok (.aload_n 0, 1) := by decide +kernel
theorem dX7_copyFrom_19 : decode cX7_copyFrom 19 = .ok (.getfield 15, 3) := by decide +kernel
theorem dX7_copyFrom_22 : decode cX7_copyFrom 22 = .ok (.arraylength, 1) := by decide +kernel
theorem dX7_copyFrom_23 : decode cX7_copyFrom 23 = .ok (.invokestatic 45, 3) := by decide +kernel
theorem dX7_copyFrom_26 : decode cX7_copyFrom 26 = .ok (.aload_n 1, 1) := by decide +kernel
theorem dX7_copyFrom_27 : decode cX7_copyFrom 27 = .ok (.getfield 19, 3) := by decide +kernel
theorem dX7_copyFrom_30 : decode cX7_copyFrom 30 = .ok (.iconst 0, 1) := by decide +kernel
theorem dX7_copyFrom_31 : decode cX7_copyFrom 31 = .ok (.aload_n 0, 1) := by decide +kernel
theorem dX7_copyFrom_32 : decode cX7_copyFrom 32 = .ok (.getfield 19, 3) := by decide +kernel
theorem dX7_copyFrom_35 : decode cX7_copyFrom 35 = .ok (.iconst 0, 1) := by decide +kernel
theorem dX7_copyFrom_36 : decode cX7_copyFrom 36 = .ok (.aload_n 0, 1) := by decide +kernel
theorem dX7_copyFrom_37 : decode cX7_copyFrom 37 = .ok (.getfield 19, 3) := by decide +kernel
theorem dX7_copyFrom_40 : decode cX7_copyFrom 40 = .ok (.arraylength, 1) := by decide +kernel
theorem dX7_copyFrom_41 : decode cX7_copyFrom 41 = .ok (.invokestatic 45, 3) := by decide +kernel
theorem dX7_copyFrom_44 : decode cX7_copyFrom 44 = .ok (.aload_n 1, 1) := by decide +kernel
theorem dX7_copyFrom_45 : decode cX7_copyFrom 45 = .ok (.getfield 22, 3) := by decide +kernel
theorem dX7_copyFrom_48 : decode cX7_copyFrom 48 = .ok (.iconst 0, 1) := by decide +kernel
theorem dX7_copyFrom_49 : decode cX7_copyFrom 49 = .ok (.aload_n 0, 1) := by decide +kernel
theorem dX7_copyFrom_50 : decode cX7_copyFrom 50 = .ok (.getfield 22, 3) := by decide +kernel
theorem dX7_copyFrom_53 : decode cX7_copyFrom 53 = .ok (.iconst 0, 1) := by decide +kernel
theorem dX7_copyFrom_54 : decode cX7_copyFrom 54 = .ok (.aload_n 0, 1) := by decide +kernel
theorem dX7_copyFrom_55 : decode cX7_copyFrom 55 = .ok (.getfield 22, 3) := by decide +kernel
theorem dX7_copyFrom_58 : decode cX7_copyFrom 58 = .ok (.arraylength, 1) := by decide +kernel
theorem dX7_copyFrom_59 : decode cX7_copyFrom 59 = .ok (.invokestatic 45, 3) := by decide +kernel
theorem dX7_copyFrom_62 : decode cX7_copyFrom 62 = .ok (.aload_n 1, 1) := by decide +kernel
theorem dX7_copyFrom_63 : decode cX7_copyFrom 63 = .ok (.getfield 25, 3) := by decide +kernel
theorem dX7_copyFrom_66 : decode cX7_copyFrom 66 = .ok (.iconst 0, 1) := by decide +kernel
theorem dX7_copyFrom_67 : decode cX7_copyFrom 67 = .ok (.aload_n 0, 1) := by decide +kernel
theorem dX7_copyFrom_68 : decode cX7_copyFrom 68 = .ok (.getfield 25, 3) := by decide +kernel
theorem dX7_copyFrom_71 : decode cX7_copyFrom 71 = .ok (.iconst 0, 1) := by decide +kernel
theorem dX7_copyFrom_72 : decode cX7_copyFrom 72 = .ok (.aload_n 0, 1) := by decide +kernel
theorem dX7_copyFrom_73 : decode cX7_copyFrom 73 = .ok (.getfield 25, 3) := by decide +kernel
theorem dX7_copyFrom_76 : decode cX7_copyFrom 76 = .ok (.arraylength, 1) := by decide +kernel
theorem dX7_copyFrom_77 : decode cX7_copyFrom 77 = .ok (.invokestatic 45, 3) := by decide +kernel
theorem dX7_copyFrom_80 : decode cX7_copyFrom 80 = .ok (.aload_n 0, 1) := by decide +kernel
theorem dX7_copyFrom_81 : decode cX7_copyFrom 81 = .ok (.getfield 31, 3) := by decide +kernel
theorem dX7_copyFrom_84 : decode cX7_copyFrom 84 = .ok (.aload_n 1, 1) := by decide +kernel
theorem dX7_copyFrom_85 : decode cX7_copyFrom 85 = .ok (.getfield 31, 3) := by decide +kernel
theorem dX7_copyFrom_88 : decode cX7_copyFrom 88 = .ok (.invokevirtual 51, 3) := by decide +kernel
theorem dX7_copyFrom_91 : decode cX7_copyFrom 91 = .ok (.return_, 1) := by decide +kernel
theorem dX7_wayOf_0 : decode cX7_wayOf 0 = .ok (.aload_n 0, 1) := by decide +kernel
theorem dX7_wayOf_1 : decode cX7_wayOf 1 = .ok (.getfield 19, 3) := by decide +kernel
theorem dX7_wayOf_4 : decode cX7_wayOf 4 = .ok (.iload_n 1, 1) := by decide +kernel
theorem dX7_wayOf_5 : decode cX7_wayOf 5 = .ok (.bipush 12, 2) := by decide +kernel
theorem dX7_wayOf_7 : decode cX7_wayOf 7 = .ok (.imul, 1) := by decide +kernel
theorem dX7_wayOf_8 : decode cX7_wayOf 8 = .ok (.iload_n 2, 1) := by decide +kernel
theorem dX7_wayOf_9 : decode cX7_wayOf 9 = .ok (.iadd, 1) := by decide +kernel
theorem dX7_wayOf_10 : decode cX7_wayOf 10 = .ok (.iaload, 1) := by decide +kernel
theorem dX7_wayOf_11 : decode cX7_wayOf 11 = .ok (.ireturn, 1) := by decide +kernel
theorem dX7_weightOf_0 : decode cX7_weightOf 0 = .ok (.aload_n 0, 1) := by decide +kernel
theorem dX7_weightOf_1 : decode cX7_weightOf 1 = .ok (.getfield 22, 3) := by decide +kernel
theorem dX7_weightOf_4 : decode cX7_weightOf 4 = .ok (.iload_n 1, 1) := by decide +kernel
theorem dX7_weightOf_5 : decode cX7_weightOf 5 = .ok (.bipush 12, 2) := by decide +kernel
theorem dX7_weightOf_7 : decode cX7_weightOf 7 = .ok (.imul, 1) := by decide +kernel
theorem dX7_weightOf_8 : decode cX7_weightOf 8 = .ok (.iload_n 2, 1) := by decide +kernel
theorem dX7_weightOf_9 : decode cX7_weightOf 9 = .ok (.iadd, 1) := by decide +kernel
theorem dX7_weightOf_10 : decode cX7_weightOf 10 = .ok (.iaload, 1) := by decide +kernel
theorem dX7_weightOf_11 : decode cX7_weightOf 11 = .ok (.ireturn, 1) := by decide +kernel
theorem dX7_likeOf_0 : decode cX7_likeOf 0 = .ok (.aload_n 0, 1) := by decide +kernel
theorem dX7_likeOf_1 : decode cX7_likeOf 1 = .ok (.getfield 25, 3) := by decide +kernel
theorem dX7_likeOf_4 : decode cX7_likeOf 4 = .ok (.iload_n 1, 1) := by decide +kernel
theorem dX7_likeOf_5 : decode cX7_likeOf 5 = .ok (.bipush 12, 2) := by decide +kernel
theorem dX7_likeOf_7 : decode cX7_likeOf 7 = .ok (.imul, 1) := by decide +kernel
theorem dX7_likeOf_8 : decode cX7_likeOf 8 = .ok (.iload_n 2, 1) := by decide +kernel
theorem dX7_likeOf_9 : decode cX7_likeOf 9 = .ok (.iadd, 1) := by decide +kernel
theorem dX7_likeOf_10 : decode cX7_likeOf 10 = .ok (.iaload, 1) := by decide +kernel
theorem dX7_likeOf_11 : decode cX7_likeOf 11 = .ok (.ireturn, 1) := by decide +kernel
theorem dX7_setWay_0 : decode cX7_setWay 0 = .ok (.aload_n 0, 1) := by decide +kernel
theorem dX7_setWay_1 : decode cX7_setWay 1 = .ok (.getfield 19, 3) := by decide +kernel
theorem dX7_setWay_4 : decode cX7_setWay 4 = .ok (.iload_n 1, 1) := by decide +kernel
theorem dX7_setWay_5 : decode cX7_setWay 5 = .ok (.bipush 12, 2) := by decide +kernel
theorem dX7_setWay_7 : decode cX7_setWay 7 = .ok (.imul, 1) := by decide +kernel
theorem dX7_setWay_8 : decode cX7_setWay 8 = .ok (.iload_n 2, 1) := by decide +kernel
theorem dX7_setWay_9 : decode cX7_setWay 9 = .ok (.iadd, 1) := by decide +kernel
theorem dX7_setWay_10 : decode cX7_setWay 10 = .ok (.iload_n 3, 1) := by decide +kernel
theorem dX7_setWay_11 : decode cX7_setWay 11 = .ok (.iastore, 1) := by decide +kernel
theorem dX7_setWay_12 : decode cX7_setWay 12 = .ok (.aload_n 0, 1) := by decide +kernel
theorem dX7_setWay_13 : decode cX7_setWay 13 = .ok (.getfield 19, 3) := by decide +kernel
theorem dX7_setWay_16 : decode cX7_setWay 16 = .ok (.iload_n 2, 1) := by decide +kernel
theorem dX7_setWay_17 : decode cX7_setWay 17 = .ok (.bipush 12, 2) := by decide +kernel
theorem dX7_setWay_19 : decode cX7_setWay 19 = .ok (.imul, 1) := by decide +kernel
theorem dX7_setWay_20 : decode cX7_setWay 20 = .ok (.iload_n 1, 1) := by decide +kernel
theorem dX7_setWay_21 : decode cX7_setWay 21 = .ok (.iadd, 1) := by decide +kernel
theorem dX7_setWay_22 : decode cX7_setWay 22 = .ok (.iload_n 3, 1) := by decide +kernel
theorem dX7_setWay_23 : decode cX7_setWay 23 = .ok (.iastore, 1) := by decide +kernel
theorem dX7_setWay_24 : decode cX7_setWay 24 = .ok (.return_, 1) := by decide +kernel
theorem dX7_setQuarrel_0 : decode cX7_setQuarrel 0 = .ok (.aload_n 0, 1) := by decide +kernel
theorem dX7_setQuarrel_1 : decode cX7_setQuarrel 1 = .ok (.getfield 22, 3) := by decide +kernel
theorem dX7_setQuarrel_4 : decode cX7_setQuarrel 4 = .ok (.iload_n 1, 1) := by decide +kernel
theorem dX7_setQuarrel_5 : decode cX7_setQuarrel 5 = .ok (.bipush 12, 2) := by decide +kernel
theorem dX7_setQuarrel_7 : decode cX7_setQuarrel 7 = .ok (.imul, 1) := by decide +kernel
theorem dX7_setQuarrel_8 : decode cX7_setQuarrel 8 = .ok (.iload_n 2, 1) := by decide +kernel
theorem dX7_setQuarrel_9 : decode cX7_setQuarrel 9 = .ok (.iadd, 1) := by decide +kernel
theorem dX7_setQuarrel_10 : decode cX7_setQuarrel 10 = .ok (.iload_n 3, 1) := by decide +kernel
theorem dX7_setQuarrel_11 : decode cX7_setQuarrel 11 = .ok (.iastore, 1) := by decide +kernel
theorem dX7_setQuarrel_12 : decode cX7_setQuarrel 12 = .ok (.aload_n 0, 1) := by decide +kernel
theorem dX7_setQuarrel_13 : decode cX7_setQuarrel 13 = .ok (.getfield 22, 3) := by decide +kernel
theorem dX7_setQuarrel_16 : decode cX7_setQuarrel 16 = .ok (.iload_n 2, 1) := by decide +kernel
theorem dX7_setQuarrel_17 : decode cX7_setQuarrel 17 = .ok (.bipush 12, 2) := by decide +kernel
theorem dX7_setQuarrel_19 : decode cX7_setQuarrel 19 = .ok (.imul, 1) := by decide +kernel
theorem dX7_setQuarrel_20 : decode cX7_setQuarrel 20 = .ok (.iload_n 1, 1) := by decide +kernel
theorem dX7_setQuarrel_21 : decode cX7_setQuarrel 21 = .ok (.iadd, 1) := by decide +kernel
theorem dX7_setQuarrel_22 : decode cX7_setQuarrel 22 = .ok (.iload_n 3, 1) := by decide +kernel
theorem dX7_setQuarrel_23 : decode cX7_setQuarrel 23 = .ok (.iastore, 1) := by decide +kernel
theorem dX7_setQuarrel_24 : decode cX7_setQuarrel 24 = .ok (.aload_n 0, 1) := by decide +kernel
theorem dX7_setQuarrel_25 : decode cX7_setQuarrel 25 = .ok (.getfield 25, 3) := by decide +kernel
theorem dX7_setQuarrel_28 : decode cX7_setQuarrel 28 = .ok (.iload_n 1, 1) := by decide +kernel
theorem dX7_setQuarrel_29 : decode cX7_setQuarrel 29 = .ok (.bipush 12, 2) := by decide +kernel
theorem dX7_setQuarrel_31 : decode cX7_setQuarrel 31 = .ok (.imul, 1) := by decide +kernel
theorem dX7_setQuarrel_32 : decode cX7_setQuarrel 32 = .ok (.iload_n 2, 1) := by decide +kernel
theorem dX7_setQuarrel_33 : decode cX7_setQuarrel 33 = .ok (.iadd, 1) := by decide +kernel
theorem dX7_setQuarrel_34 : decode cX7_setQuarrel 34 = .ok (.iload 4, 2) := by decide +kernel
theorem dX7_setQuarrel_36 : decode cX7_setQuarrel 36 = .ok (.iastore, 1) := by decide +kernel
theorem dX7_setQuarrel_37 : decode cX7_setQuarrel 37 = .ok (.aload_n 0, 1) := by decide +kernel
theorem dX7_setQuarrel_38 : decode cX7_setQuarrel 38 = .ok (.getfield 25, 3) := by decide +kernel
theorem dX7_setQuarrel_41 : decode cX7_setQuarrel 41 = .ok (.iload_n 2, 1) := by decide +kernel
theorem dX7_setQuarrel_42 : decode cX7_setQuarrel 42 = .ok (.bipush 12, 2) := by decide +kernel
theorem dX7_setQuarrel_44 : decode cX7_setQuarrel 44 = .ok (.imul, 1) := by decide +kernel
theorem dX7_setQuarrel_45 : decode cX7_setQuarrel 45 = .ok (.iload_n 1, 1) := by decide +kernel
theorem dX7_setQuarrel_46 : decode cX7_setQuarrel 46 = .ok (.iadd, 1) := by decide +kernel
theorem dX7_setQuarrel_47 : decode cX7_setQuarrel 47 = .ok (.iload 4, 2) := by decide +kernel
theorem dX7_setQuarrel_49 : decode cX7_setQuarrel 49 = .ok (.iastore, 1) := by decide +kernel
theorem dX7_setQuarrel_50 : decode cX7_setQuarrel 50 = .ok (.return_, 1) := by decide +kernel
theorem dX7_pulls_0 : decode cX7_pulls 0 = .ok (.aload_n 0, 1) := by decide +kernel
theorem dX7_pulls_1 : decode cX7_pulls 1 = .ok (.iload_n 1, 1) := by decide +kernel
theorem dX7_pulls_2 : decode cX7_pulls 2 = .ok (.iload_n 2, 1) := by decide +kernel
theorem dX7_pulls_3 : decode cX7_pulls 3 = .ok (.invokevirtual 55, 3) := by decide +kernel
theorem dX7_pulls_6 : decode cX7_pulls 6 = .ok (.ifCond .le 17, 3) := by decide +kernel
theorem dX7_pulls_9 : decode cX7_pulls 9 = .ok (.aload_n 0, 1) := by decide +kernel
theorem dX7_pulls_10 : decode cX7_pulls 10 = .ok (.iload_n 1, 1) := by decide +kernel
theorem dX7_pulls_11 : decode cX7_pulls 11 = .ok (.iload_n 2, 1) := by decide +kernel
theorem dX7_pulls_12 : decode cX7_pulls 12 = .ok (.invokevirtual 59, 3) := by decide +kernel
theorem dX7_pulls_15 : decode cX7_pulls 15 = .ok (.iconst 1, 1) := by decide +kernel
theorem dX7_pulls_16 : decode cX7_pulls 16 = .ok (.if_icmp .ne 7, 3) := by decide +kernel
theorem dX7_pulls_19 : decode cX7_pulls 19 = .ok (.iconst 1, 1) := by decide +kernel
theorem dX7_pulls_20 : decode cX7_pulls 20 = .ok (.goto 4, 3) := by decide +kernel
theorem dX7_pulls_23 : decode cX7_pulls 23 = .ok (.iconst 0, 1) := by decide +kernel
theorem dX7_pulls_24 : decode cX7_pulls 24 = .ok (.ireturn, 1) := by decide +kernel
theorem dX7_firstNumber_0 : decode cX7_firstNumber 0 = .ok (.aload_n 0, 1) := by decide +kernel
theorem dX7_firstNumber_1 : decode cX7_firstNumber 1 = .ok (.getfield 15, 3) := by decide +kernel
theorem dX7_firstNumber_4 : decode cX7_firstNumber 4 = .ok (.iload_n 1, 1) := by decide +kernel
theorem dX7_firstNumber_5 : decode cX7_firstNumber 5 = .ok (.iconst 4, 1) := by decide +kernel
theorem dX7_firstNumber_6 : decode cX7_firstNumber 6 = .ok (.imul, 1) := by decide +kernel
theorem dX7_firstNumber_7 : decode cX7_firstNumber 7 = .ok (.iaload, 1) := by decide +kernel
theorem dX7_firstNumber_8 : decode cX7_firstNumber 8 = .ok (.ireturn, 1) := by decide +kernel
theorem dX7_gapOf_0 : decode cX7_gapOf 0 = .ok (.iconst 0, 1) := by decide +kernel
theorem dX7_gapOf_1 : decode cX7_gapOf 1 = .ok (.istore 4, 2) := by decide +kernel
theorem dX7_gapOf_3 : decode cX7_gapOf 3 = .ok (.iconst 0, 1) := by decide +kernel
theorem dX7_gapOf_4 : decode cX7_gapOf 4 = .ok (.istore 5, 2) := by decide +kernel
theorem dX7_gapOf_6 : decode cX7_gapOf 6 = .ok (.iload 5, 2) := by decide +kernel
theorem dX7_gapOf_8 : decode cX7_gapOf 8 = .ok (.iconst 4, 1) := by decide +kernel
theorem dX7_gapOf_9 : decode cX7_gapOf 9 = .ok (.if_icmp .ge 78, 3) := by decide +kernel
theorem dX7_gapOf_12 : decode cX7_gapOf 12 = .ok (.aload_n 0, 1) := by decide +kernel
theorem dX7_gapOf_13 : decode cX7_gapOf 13 = .ok (.getfield 15, 3) := by decide +kernel
theorem dX7_gapOf_16 : decode cX7_gapOf 16 = .ok (.iload_n 1, 1) := by decide +kernel
theorem dX7_gapOf_17 : decode cX7_gapOf 17 = .ok (.iconst 4, 1) := by decide +kernel
theorem dX7_gapOf_18 : decode cX7_gapOf 18 = .ok (.imul, 1) := by decide +kernel
theorem dX7_gapOf_19 : decode cX7_gapOf 19 = .ok (.iload 5, 2) := by decide +kernel
theorem dX7_gapOf_21 : decode cX7_gapOf 21 = .ok (.iadd, 1) := by decide +kernel
theorem dX7_gapOf_22 : decode cX7_gapOf 22 = .ok (.iaload, 1) := by decide +kernel
theorem dX7_gapOf_23 : decode cX7_gapOf 23 = .ok (.aload_n 0, 1) := by decide +kernel
theorem dX7_gapOf_24 : decode cX7_gapOf 24 = .ok (.getfield 15, 3) := by decide +kernel
theorem dX7_gapOf_27 : decode cX7_gapOf 27 = .ok (.iload_n 2, 1) := by decide +kernel
theorem dX7_gapOf_28 : decode cX7_gapOf 28 = .ok (.iconst 4, 1) := by decide +kernel
theorem dX7_gapOf_29 : decode cX7_gapOf 29 = .ok (.imul, 1) := by decide +kernel
theorem dX7_gapOf_30 : decode cX7_gapOf 30 = .ok (.iload 5, 2) := by decide +kernel
theorem dX7_gapOf_32 : decode cX7_gapOf 32 = .ok (.iadd, 1) := by decide +kernel
theorem dX7_gapOf_33 : decode cX7_gapOf 33 = .ok (.iaload, 1) := by decide +kernel
theorem dX7_gapOf_34 : decode cX7_gapOf 34 = .ok (.isub, 1) := by decide +kernel
theorem dX7_gapOf_35 : decode cX7_gapOf 35 = .ok (.invokestatic 62, 3) := by decide +kernel
theorem dX7_gapOf_38 : decode cX7_gapOf 38 = .ok (.istore 6, 2) := by decide +kernel
theorem dX7_gapOf_40 : decode cX7_gapOf 40 = .ok (.iload_n 3, 1) := by decide +kernel
theorem dX7_gapOf_41 : decode cX7_gapOf 41 = .ok (.ifCond .ne 13, 3) := by decide +kernel
theorem dX7_gapOf_44 : decode cX7_gapOf 44 = .ok (.iload 4, 2) := by decide +kernel
theorem dX7_gapOf_46 : decode cX7_gapOf 46 = .ok (.iload 6, 2) := by decide +kernel
theorem dX7_gapOf_48 : decode cX7_gapOf 48 = .ok (.iadd, 1) := by decide +kernel
theorem dX7_gapOf_49 : decode cX7_gapOf 49 = .ok (.istore 4, 2) := by decide +kernel
theorem dX7_gapOf_51 : decode cX7_gapOf 51 = .ok (.goto 30, 3) := by decide +kernel
theorem dX7_gapOf_54 : decode cX7_gapOf 54 = .ok (.iload_n 3, 1) := by decide +kernel
theorem dX7_gapOf_55 : decode cX7_gapOf 55 = .ok (.iconst 1, 1) := by decide +kernel
theorem dX7_gapOf_56 : decode cX7_gapOf 56 = .ok (.if_icmp .ne 15, 3) := by decide +kernel
theorem dX7_gapOf_59 : decode cX7_gapOf 59 = .ok (.iload 4, 2) := by decide +kernel
theorem dX7_gapOf_61 : decode cX7_gapOf 61 = .ok (.iload 6, 2) := by decide +kernel
theorem dX7_gapOf_63 : decode cX7_gapOf 63 = .ok (.invokestatic 68, 3) := by decide +kernel
theorem dX7_gapOf_66 : decode cX7_gapOf 66 = .ok (.istore 4, 2) := by decide +kernel
theorem dX7_gapOf_68 : decode cX7_gapOf 68 = .ok (.goto 13, 3) := by decide +kernel
theorem dX7_gapOf_71 : decode cX7_gapOf 71 = .ok (.iload 4, 2) := by decide +kernel
theorem dX7_gapOf_73 : decode cX7_gapOf 73 = .ok (.iload 6, 2) := by decide +kernel
theorem dX7_gapOf_75 : decode cX7_gapOf 75 = .ok (.iload 6, 2) := by decide +kernel
theorem dX7_gapOf_77 : decode cX7_gapOf 77 = .ok (.imul, 1) := by decide +kernel
theorem dX7_gapOf_78 : decode cX7_gapOf 78 = .ok (.iadd, 1) := by decide +kernel
theorem dX7_gapOf_79 : decode cX7_gapOf 79 = .ok (.istore 4, 2) := by decide +kernel
theorem dX7_gapOf_81 : decode cX7_gapOf 81 = .ok (.iinc 5 1, 3) := by decide +kernel
theorem dX7_gapOf_84 : decode cX7_gapOf 84 = .ok (.goto (-78), 3) := by decide +kernel
theorem dX7_gapOf_87 : decode cX7_gapOf 87 = .ok (.iload 4, 2) := by decide +kernel
theorem dX7_gapOf_89 : decode cX7_gapOf 89 = .ok (.ireturn, 1) := by decide +kernel
theorem dX7_partByCentres_0 : decode cX7_partByCentres 0 = .ok (.aload_n 0, 1) := by decide +kernel
theorem dX7_partByCentres_1 : decode cX7_partByCentres 1 = .ok (.getfield 31, 3) := by decide +kernel
theorem dX7_partByCentres_4 : decode cX7_partByCentres 4 = .ok (.getfield 71, 3) := by decide +kernel
theorem dX7_partByCentres_7 : decode cX7_partByCentres 7 = .ok (.iconst 0, 1) := by decide +kernel
theorem dX7_partByCentres_8 : decode cX7_partByCentres 8 = .ok (.invokestatic 35, 3) := by decide +kernel
theorem dX7_partByCentres_11 : decode cX7_partByCentres 11 = .ok (.iconst 1, 1) := by decide +kernel
theorem dX7_partByCentres_12 : decode cX7_partByCentres 12 = .ok (.istore_n 2, 1) := by decide +kernel
theorem dX7_partByCentres_13 : decode cX7_partByCentres 13 = .ok (.iload_n 2, 1) := by decide +kernel
theorem dX7_partByCentres_14 : decode cX7_partByCentres 14 = .ok (.iload_n 1, 1) := by decide +kernel
theorem dX7_partByCentres_15 : decode cX7_partByCentres 15 = .ok (.if_icmp .ge 17, 3) := by decide +kernel
theorem dX7_partByCentres_18 : decode cX7_partByCentres 18 = .ok (.aload_n 0, 1) := by decide +kernel
theorem dX7_partByCentres_19 : decode cX7_partByCentres 19 = .ok (.aload_n 0, 1) := by decide +kernel
theorem dX7_partByCentres_20 : decode cX7_partByCentres 20 = .ok (.invokevirtual 74, 3) := by decide +kernel
theorem dX7_partByCentres_23 : decode cX7_partByCentres 23 = .ok (.invokevirtual 78, 3) := by decide +kernel
theorem dX7_partByCentres_26 : decode cX7_partByCentres 26 = .ok (.iinc 2 1, 3) := by decide +kernel
theorem dX7_partByCentres_29 : decode cX7_partByCentres 29 = .ok (.goto (-16), 3) := by decide +kernel
theorem dX7_partByCentres_32 : decode cX7_partByCentres 32 = .ok (.aload_n 0, 1) := by decide +kernel
theorem dX7_partByCentres_33 : decode cX7_partByCentres 33 = .ok (.aload_n 0, 1) := by decide +kernel
theorem dX7_partByCentres_34 : decode cX7_partByCentres 34 = .ok (.invokevirtual 74, 3) := by decide +kernel
theorem dX7_partByCentres_37 : decode cX7_partByCentres 37 = .ok (.invokevirtual 81, 3) := by decide +kernel
theorem dX7_partByCentres_40 : decode cX7_partByCentres 40 = .ok (.istore_n 2, 1) := by decide +kernel
theorem dX7_partByCentres_41 : decode cX7_partByCentres 41 = .ok (.aload_n 0, 1) := by decide +kernel
theorem dX7_partByCentres_42 : decode cX7_partByCentres 42 = .ok (.getfield 31, 3) := by decide +kernel
theorem dX7_partByCentres_45 : decode cX7_partByCentres 45 = .ok (.invokevirtual 84, 3) := by decide +kernel
theorem dX7_partByCentres_48 : decode cX7_partByCentres 48 = .ok (.iload_n 2, 1) := by decide +kernel
theorem dX7_partByCentres_49 : decode cX7_partByCentres 49 = .ok (.ireturn, 1) := by decide +kernel
theorem dX7_wayToCentre_0 : decode cX7_wayToCentre 0 = .ok (.aload_n 0, 1) := by decide +kernel
theorem dX7_wayToCentre_1 : decode cX7_wayToCentre 1 = .ok (.iload_n 1, 1) := by decide +kernel
theorem dX7_wayToCentre_2 : decode cX7_wayToCentre 2 = .ok (.aload_n 0, 1) := by decide +kernel
theorem dX7_wayToCentre_3 : decode cX7_wayToCentre 3 = .ok (.getfield 31, 3) := by decide +kernel
theorem dX7_wayToCentre_6 : decode cX7_wayToCentre 6 = .ok (.getfield 71, 3) := by decide +kernel
theorem dX7_wayToCentre_9 : decode cX7_wayToCentre 9 = .ok (.iload_n 1, 1) := by decide +kernel
theorem dX7_wayToCentre_10 : decode cX7_wayToCentre 10 = .ok (.iaload, 1) := by decide +kernel
theorem dX7_wayToCentre_11 : decode cX7_wayToCentre 11 = .ok (.invokevirtual 87, 3) := by decide +kernel
theorem dX7_wayToCentre_14 : decode cX7_wayToCentre 14 = .ok (.ireturn, 1) := by decide +kernel
theorem dX7_farthestFromCentre_0 : decode cX7_farthestFromCentre 0 = .ok (.iconst 0, 1) := by decide +kernel
theorem dX7_farthestFromCentre_1 : decode cX7_farthestFromCentre 1 = .ok (.istore_n 1, 1) := by decide +kernel
theorem dX7_farthestFromCentre_2 : decode cX7_farthestFromCentre 2 = .ok (.iconst 1, 1) := by decide +kernel
theorem dX7_farthestFromCentre_3 : decode cX7_farthestFromCentre 3 = .ok (.istore_n 2, 1) := by decide +kernel
theorem dX7_farthestFromCentre_4 : decode cX7_farthestFromCentre 4 = .ok (.iload_n 2, 1) := by decide +kernel
theorem dX7_farthestFromCentre_5 : decode cX7_farthestFromCentre 5 = .ok (.aload_n 0, 1) := by decide +kernel
theorem dX7_farthestFromCentre_6 : decode cX7_farthestFromCentre 6 = .ok (.getfield 9, 3) := by decide +kernel
theorem dX7_farthestFromCentre_9 : decode cX7_farthestFromCentre 9 = .ok (.if_icmp .ge 24, 3) := by decide +kernel
theorem dX7_farthestFromCentre_12 : decode cX7_farthestFromCentre 12 = .ok (.aload_n 0, 1) := by decide +kernel
theorem dX7_farthestFromCentre_13 : decode cX7_farthestFromCentre 13 = .ok (.iload_n 2, 1) := by decide +kernel
theorem dX7_farthestFromCentre_14 : decode cX7_farthestFromCentre 14 = .ok (.invokevirtual 81, 3) := by decide +kernel
theorem dX7_farthestFromCentre_17 : decode cX7_farthestFromCentre 17 = .ok (.aload_n 0, 1) := by decide +kernel
theorem dX7_farthestFromCentre_18 : decode cX7_farthestFromCentre 18 = .ok (.iload_n 1, 1) := by decide +kernel
theorem dX7_farthestFromCentre_19 : decode cX7_farthestFromCentre 19 = .ok (.invokevirtual 81, 3) := by decide +kernel
theorem dX7_farthestFromCentre_22 : decode cX7_farthestFromCentre 22 = .ok (.if_icmp .le 5, 3) := by decide +kernel
theorem dX7_farthestFromCentre_25 : decode cX7_farthestFromCentre 25 = .ok (.iload_n 2, 1) := by decide +kernel
theorem dX7_farthestFromCentre_26 : decode cX7_farthestFromCentre 26 = .ok (.istore_n 1, 1) := by decide +kernel
theorem dX7_farthestFromCentre_27 : decode cX7_farthestFromCentre 27 = .ok (.iinc 2 1, 3) := by decide +kernel
theorem dX7_farthestFromCentre_30 : decode cX7_farthestFromCentre 30 = .ok (.goto (-26), 3) := by decide +kernel
theorem dX7_farthestFromCentre_33 : decode cX7_farthestFromCentre 33 = .ok (.iload_n 1, 1) := by decide +kernel
theorem dX7_farthestFromCentre_34 : decode cX7_farthestFromCentre 34 = .ok (.ireturn, 1) := by decide +kernel
theorem dX7_gatherNearer_0 : decode cX7_gatherNearer 0 = .ok (.iconst 0, 1) := by decide +kernel
theorem dX7_gatherNearer_1 : decode cX7_gatherNearer 1 = .ok (.istore_n 2, 1) := by decide +kernel
theorem dX7_gatherNearer_2 : decode cX7_gatherNearer 2 = .ok (.iload_n 2, 1) := by decide +kernel
theorem dX7_gatherNearer_3 : decode cX7_gatherNearer 3 = .ok (.aload_n 0, 1) := by decide +kernel
theorem dX7_gatherNearer_4 : decode cX7_gatherNearer 4 = .ok (.getfield 9, 3) := by decide +kernel
theorem dX7_gatherNearer_7 : decode cX7_gatherNearer 7 = .ok (.if_icmp .ge 33, 3) := by decide +kernel
theorem dX7_gatherNearer_10 : decode cX7_gatherNearer 10 = .ok (.aload_n 0, 1) := by decide +kernel
theorem dX7_gatherNearer_11 : decode cX7_gatherNearer 11 = .ok (.iload_n 2, 1) := by decide +kernel
theorem dX7_gatherNearer_12 : decode cX7_gatherNearer 12 = .ok (.iload_n 1, 1) := by decide +kernel
theorem dX7_gatherNearer_13 : decode cX7_gatherNearer 13 = .ok (.invokevirtual 87, 3) := by decide +kernel
theorem dX7_gatherNearer_16 : decode cX7_gatherNearer 16 = .ok (.aload_n 0, 1) := by decide +kernel
theorem dX7_gatherNearer_17 : decode cX7_gatherNearer 17 = .ok (.iload_n 2, 1) := by decide +kernel
theorem dX7_gatherNearer_18 : decode cX7_gatherNearer 18 = .ok (.invokevirtual 81, 3) := by decide +kernel
theorem dX7_gatherNearer_21 : decode cX7_gatherNearer 21 = .ok (.if_icmp .ge 13, 3) := by decide +kernel
theorem dX7_gatherNearer_24 : decode cX7_gatherNearer 24 = .ok (.aload_n 0, 1) := by decide +kernel
theorem dX7_gatherNearer_25 : decode cX7_gatherNearer 25 = .ok (.getfield 31, 3) := by decide +kernel
theorem dX7_gatherNearer_28 : decode cX7_gatherNearer 28 = .ok (.getfield 71, 3) := by decide +kernel
theorem dX7_gatherNearer_31 : decode cX7_gatherNearer 31 = .ok (.iload_n 2, 1) := by decide +kernel
theorem dX7_gatherNearer_32 : decode cX7_gatherNearer 32 = .ok (.iload_n 1, 1) := by decide +kernel
theorem dX7_gatherNearer_33 : decode cX7_gatherNearer 33 = .ok (.iastore, 1) := by decide +kernel
theorem dX7_gatherNearer_34 : decode cX7_gatherNearer 34 = .ok (.iinc 2 1, 3) := by decide +kernel
theorem dX7_gatherNearer_37 : decode cX7_gatherNearer 37 = .ok (.goto (-35), 3) := by decide +kernel
theorem dX7_gatherNearer_40 : decode cX7_gatherNearer 40 = .ok (.return_, 1) := by decide +kernel
theorem dX8_init_0 : decode cX8_init 0 = .ok (.aload_n 0, 1) := by decide +kernel
theorem dX8_init_1 : decode cX8_init 1 = .ok (.invokespecial 3, 3) := by decide +kernel
theorem dX8_init_4 : decode cX8_init 4 = .ok (.aload_n 0, 1) := by decide +kernel
theorem dX8_init_5 : decode cX8_init 5 = .ok (.sipush 512, 3) := by decide +kernel
theorem dX8_init_8 : decode cX8_init 8 = .ok (.newarray .long, 2) := by decide +kernel
theorem dX8_init_10 : decode cX8_init 10 = .ok (.putfield 9, 3) := by decide +kernel
theorem dX8_init_13 : decode cX8_init 13 = .ok (.aload_n 0, 1) := by decide +kernel
theorem dX8_init_14 : decode cX8_init 14 = .ok (.bipush 12, 2) := by decide +kernel
theorem dX8_init_16 : decode cX8_init 16 = .ok (.newarray .int, 2) := by decide +kernel
theorem dX8_init_18 : decode cX8_init 18 = .ok (.putfield 15, 3) := by decide +kernel
theorem dX8_init_21 : decode cX8_init 21 = .ok (.aload_n 0, 1) := by decide +kernel
theorem dX8_init_22 : decode cX8_init 22 = .ok (.bipush 12, 2) := by decide +kernel
theorem dX8_init_24 : decode cX8_init 24 = .ok (.newarray .int, 2) := by decide +kernel
theorem dX8_init_26 : decode cX8_init 26 = .ok (.putfield 19, 3) := by decide +kernel
theorem dX8_init_29 : decode cX8_init 29 = .ok (.aload_n 0, 1) := by decide +kernel
theorem dX8_init_30 : decode cX8_init 30 = .ok (.lconst 0, 1) := by decide +kernel
theorem dX8_init_31 : decode cX8_init 31 = .ok (.putfield 22, 3) := by decide +kernel
theorem dX8_init_34 : decode cX8_init 34 = .ok (.aload_n 0, 1) := by decide +kernel
theorem dX8_init_35 : decode cX8_init 35 = .ok (.iconst 0, 1) := by decide +kernel
theorem dX8_init_36 : decode cX8_init 36 = .ok (.putfield 26, 3) := by decide +kernel
theorem dX8_init_39 : decode cX8_init 39 = .ok (.aload_n 0, 1) := by decide +kernel
theorem dX8_init_40 : decode cX8_init 40 = .ok (.iconst 0, 1) := by decide +kernel
theorem dX8_init_41 : decode cX8_init 41 = .ok (.putfield 30, 3) := by decide +kernel
theorem dX8_init_44 : decode cX8_init 44 = .ok (.aload_n 0, 1) := by decide +kernel
theorem dX8_init_45 : decode cX8_init 45 = .ok (.iconst 0, 1) := by decide +kernel
theorem dX8_init_46 : decode cX8_init 46 = .ok (.putfield 33, 3) := by decide +kernel
theorem dX8_init_49 : decode cX8_init 49 = .ok (.return_, 1) := by decide +kernel
theorem dX8_run_0 : decode cX8_run 0 = .ok (.aload_n 0, 1) := by decide +kernel
theorem dX8_run_1 : decode cX8_run 1 = .ok (.iload_n 2, 1) := by decide +kernel
theorem dX8_run_2 : decode cX8_run 2 = .ok (.putfield 26, 3) := by decide +kernel
theorem dX8_run_5 : decode cX8_run 5 = .ok (.aload_n 0, 1) := by decide +kernel
theorem dX8_run_6 : decode cX8_run 6 = .ok (.iload_n 3, 1) := by decide +kernel
theorem dX8_run_7 : decode cX8_run 7 = .ok (.putfield 30, 3) := by decide +kernel
theorem dX8_run_10 : decode cX8_run 10 = .ok (.aload_n 0, 1) := by decide +kernel
theorem dX8_run_11 : decode cX8_run 11 = .ok (.iload 4, 2) := by decide +kernel
theorem dX8_run_13 : decode cX8_run 13 = .ok (.putfield 33, 3) := by decide +kernel
theorem dX8_run_16 : decode cX8_run 16 = .ok (.aload_n 0, 1) := by decide +kernel
theorem dX8_run_17 : decode cX8_run 17 = .ok (.ldc2_w 38, 3) := by decide +kernel
theorem dX8_run_20 : decode cX8_run 20 = .ok (.putfield 22, 3) := by decide +kernel
theorem dX8_run_23 : decode cX8_run 23 = .ok (.aload_n 0, 1) := by decide +kernel
theorem dX8_run_24 : decode cX8_run 24 = .ok (.getfield 26, 3) := by decide +kernel
theorem dX8_run_27 : decode cX8_run 27 = .ok (.iconst 2, 1) := by decide +kernel
theorem dX8_run_28 : decode cX8_run 28 = .ok (.if_icmp .eq 8, 3) := by decide +kernel
theorem dX8_run_31 : decode cX8_run 31 = .ok (.aload_n 0, 1) := by decide +kernel
theorem dX8_run_32 : decode cX8_run 32 = .ok (.aload_n 1, 1) := by decide +kernel
theorem dX8_run_33 : decode cX8_run 33 = .ok (.invokevirtual 40, 3) := by decide +kernel
theorem dX8_run_36 : decode cX8_run 36 = .ok (.aload_n 0, 1) := by decide +kernel
theorem dX8_run_37 : decode cX8_run 37 = .ok (.getfield 15, 3) := by decide +kernel
theorem dX8_run_40 : decode cX8_run 40 = .ok (.iconst 0, 1) := by decide +kernel
theorem dX8_run_41 : decode cX8_run 41 = .ok (.invokestatic 44, 3) := by decide +kernel
theorem dX8_run_44 : decode cX8_run 44 = .ok (.aload_n 0, 1) := by decide +kernel
theorem dX8_run_45 : decode cX8_run 45 = .ok (.aload_n 1, 1) := by decide +kernel
theorem dX8_run_46 : decode cX8_run 46 = .ok (.iconst 0, 1) := by decide +kernel
theorem dX8_run_47 : decode cX8_run 47 = .ok (.iconst 0, 1) := by decide +kernel
theorem dX8_run_48 : decode cX8_run 48 = .ok (.aload_n 1, 1) := by decide +kernel
theorem dX8_run_49 : decode cX8_run 49 = .ok (.aload_n 0, 1) := by decide +kernel
theorem dX8_run_50 : decode cX8_run 50 = .ok (.getfield 26, 3) := by decide +kernel
theorem dX8_run_53 : decode cX8_run 53 = .ok (.invokestatic 50, 3) := by decide +kernel
theorem dX8_run_56 : decode cX8_run 56 = .ok (.invokevirtual 56, 3) := by decide +kernel
theorem dX8_run_59 : decode cX8_run 59 = .ok (.aload_n 0, 1) := by decide +kernel
theorem dX8_run_60 : decode cX8_run 60 = .ok (.getfield 22, 3) := by decide +kernel
theorem dX8_run_63 : decode cX8_run 63 = .ok (.lreturn, 1) := by decide +kernel
theorem dX8_costAllHeaps_0 : decode cX8_costAllHeaps 0 = .ok (.iconst 1, 1) := by decide +kernel
theorem dX8_costAllHeaps_1 : decode cX8_costAllHeaps 1 = .ok (.aload_n 1, 1) := by decide +kernel
theorem dX8_costAllHeaps_2 : decode cX8_costAllHeaps 2 = .ok (.getfield 60, 3) := by decide +kernel
theorem dX8_costAllHeaps_5 : decode cX8_costAllHeaps 5 = .ok (.ishl, 1) := by decide +kernel
theorem dX8_costAllHeaps_6 : decode cX8_costAllHeaps 6 = .ok (.aload_n 0, 1) := by decide +kernel
theorem dX8_costAllHeaps_7 : decode cX8_costAllHeaps 7 = .ok (.getfield 9, 3) := by decide +kernel
theorem dX8_costAllHeaps_10 : decode cX8_costAllHeaps 10 = .ok (.arraylength, 1) := by decide +kernel
theorem dX8_costAllHeaps_11 : decode cX8_costAllHeaps 11 = .ok (.invokestatic 65, 3) := by decide +kernel
theorem dX8_costAllHeaps_14 : decode cX8_costAllHeaps 14 = .ok (.istore_n 2, 1) := by decide +kernel
theorem dX8_costAllHeaps_15 : decode cX8_costAllHeaps 15 = .ok (.iconst 0, 1) := by decide +kernel
theorem dX8_costAllHeaps_16 : decode cX8_costAllHeaps 16 = .ok (.istore_n 3, 1) := by decide +kernel
theorem dX8_costAllHeaps_17 : decode cX8_costAllHeaps 17 = .ok (.iload_n 3, 1) := by decide +kernel
theorem dX8_costAllHeaps_18 : decode cX8_costAllHeaps 18 = .ok (.iload_n 2, 1) := by decide +kernel
theorem dX8_costAllHeaps_19 : decode cX8_costAllHeaps 19 = .ok (.if_icmp .ge 24, 3) := by decide +kernel
theorem dX8_costAllHeaps_22 : decode cX8_costAllHeaps 22 = .ok (.aload_n 0, 1) := by decide +kernel
theorem dX8_costAllHeaps_23 : decode cX8_costAllHeaps 23 = .ok (.getfield 9, 3) := by decide +kernel
theorem dX8_costAllHeaps_26 : decode cX8_costAllHeaps 26 = .ok (.iload_n 3, 1) := by decide +kernel
theorem dX8_costAllHeaps_27 : decode cX8_costAllHeaps 27 = .ok (.aload_n 1, 1) := by decide +kernel
theorem dX8_costAllHeaps_28 : decode cX8_costAllHeaps 28 = .ok (.aload_n 0, 1) := by decide +kernel
theorem dX8_costAllHeaps_29 : decode cX8_costAllHeaps 29 = .ok (.getfield 26, 3) := by decide +kernel
theorem dX8_costAllHeaps_32 : decode cX8_costAllHeaps 32 = .ok (.iload_n 3, 1) := by decide +kernel
theorem dX8_costAllHeaps_33 : decode cX8_costAllHeaps 33 = .ok (.invokestatic 71, 3) := by decide +kernel
theorem dX8_costAllHeaps_36 : decode cX8_costAllHeaps 36 = .ok (.lastore, 1) := by decide +kernel
theorem dX8_costAllHeaps_37 : decode cX8_costAllHeaps 37 = .ok (.iinc 3 1, 3) := by decide +kernel
theorem dX8_costAllHeaps_40 : decode cX8_costAllHeaps 40 = .ok (.goto (-23), 3) := by decide +kernel
theorem dX8_costAllHeaps_43 : decode cX8_costAllHeaps 43 = .ok (.return_, 1) := by decide +kernel
theorem dX8_descend_0 : decode cX8_descend 0 = .ok (.iload_n 2, 1) := by decide +kernel
theorem dX8_descend_1 : decode cX8_descend 1 = .ok (.aload_n 1, 1) := by decide +kernel
theorem dX8_descend_2 : decode cX8_descend 2 = .ok (.getfield 60, 3) := by decide +kernel
theorem dX8_descend_5 : decode cX8_descend 5 = .ok (.if_icmp .ge 9, 3) := by decide +kernel
theorem dX8_descend_8 : decode cX8_descend 8 = .ok (.iload_n 2, 1) := by decide +kernel
theorem dX8_descend_9 : decode cX8_descend 9 = .ok (.bipush 12, 2) := by decide +kernel
theorem dX8_descend_11 : decode cX8_descend 11 = .ok (.if_icmp .lt 12, 3) := by decide +kernel
theorem dX8_descend_14 : decode cX8_descend 14 = .ok (.aload_n 0, 1) := by decide +kernel
theorem dX8_descend_15 : decode cX8_descend 15 = .ok (.aload_n 1, 1) := by decide +kernel
theorem dX8_descend_16 : decode cX8_descend 16 = .ok (.iload_n 3, 1) := by decide +kernel
theorem dX8_descend_17 : decode cX8_descend 17 = .ok (.lload 4, 2) := by decide +kernel
theorem dX8_descend_19 : decode cX8_descend 19 = .ok (.invokevirtual 75, 3) := by decide +kernel
theorem dX8_descend_22 : decode cX8_descend 22 = .ok (.return_, 1) := by decide +kernel
theorem dX8_descend_23 : decode cX8_descend 23 = .ok (.iload_n 3, 1) := by decide +kernel
theorem dX8_descend_24 : decode cX8_descend 24 = .ok (.aload_n 1, 1) := by decide +kernel
theorem dX8_descend_25 : decode cX8_descend 25 = .ok (.getfield 60, 3) := by decide +kernel
theorem dX8_descend_28 : decode cX8_descend 28 = .ok (.iadd, 1) := by decide +kernel
theorem dX8_descend_29 : decode cX8_descend 29 = .ok (.iload_n 2, 1) := by decide +kernel
theorem dX8_descend_30 : decode cX8_descend 30 = .ok (.isub, 1) := by decide +kernel
theorem dX8_descend_31 : decode cX8_descend 31 = .ok (.aload_n 0, 1) := by decide +kernel
theorem dX8_descend_32 : decode cX8_descend 32 = .ok (.getfield 30, 3) := by decide +kernel
theorem dX8_descend_35 : decode cX8_descend 35 = .ok (.if_icmp .ge 4, 3) := by decide +kernel
theorem dX8_descend_38 : decode cX8_descend 38 = .ok (.return_, 1) := by decide +kernel
theorem dX8_descend_39 : decode cX8_descend 39 = .ok (.iload_n 3, 1) := by decide +kernel
theorem dX8_descend_40 : decode cX8_descend 40 = .ok (.aload_n 0, 1) := by decide +kernel
theorem dX8_descend_41 : decode cX8_descend 41 = .ok (.getfield 33, 3) := by decide +kernel
theorem dX8_descend_44 : decode cX8_descend 44 = .ok (.iconst 1, 1) := by decide +kernel
theorem dX8_descend_45 : decode cX8_descend 45 = .ok (.isub, 1) := by decide +kernel
theorem dX8_descend_46 : decode cX8_descend 46 = .ok (.invokestatic 65, 3) := by decide +kernel
theorem dX8_descend_49 : decode cX8_descend 49 = .ok (.istore 6, 2) := by decide +kernel
theorem dX8_descend_51 : decode cX8_descend 51 = .ok (.iconst 0, 1) := by decide +kernel
theorem dX8_descend_52 : decode cX8_descend 52 = .ok (.istore 7, 2) := by decide +kernel
theorem dX8_descend_54 : decode cX8_descend 54 = .ok (.iload 7, 2) := by decide +kernel
theorem dX8_descend_56 : decode cX8_descend 56 = .ok (.iload 6, 2) := by decide +kernel
theorem dX8_descend_58 : decode cX8_descend 58 = .ok (.if_icmp .gt 111, 3) := by decide +kernel
theorem dX8_descend_61 : decode cX8_descend 61 = .ok (.iload 7, 2) := by decide +kernel
theorem dX8_descend_63 : decode cX8_descend 63 = .ok (.bipush 12, 2) := by decide +kernel
theorem dX8_descend_65 : decode cX8_descend 65 = .ok (.if_icmp .ge 104, 3) := by decide +kernel
theorem dX8_descend_68 : decode cX8_descend 68 = .ok (.aload_n 0, 1) := by decide +kernel
theorem dX8_descend_69 : decode cX8_descend 69 = .ok (.getfield 15, 3) := by decide +kernel
theorem dX8_descend_72 : decode cX8_descend 72 = .ok (.iload 7, 2) := by decide +kernel
theorem dX8_descend_74 : decode cX8_descend 74 = .ok (.iaload, 1) := by decide +kernel
theorem dX8_descend_75 : decode cX8_descend 75 = .ok (.istore 8, 2) := by decide +kernel
theorem dX8_descend_77 : decode cX8_descend 77 = .ok (.aload_n 0, 1) := by decide +kernel
theorem dX8_descend_78 : decode cX8_descend 78 = .ok (.aload_n 1, 1) := by decide +kernel
theorem dX8_descend_79 : decode cX8_descend 79 = .ok (.lload 4, 2) := by decide +kernel
theorem dX8_descend_81 : decode cX8_descend 81 = .ok (.iload 8, 2) := by decide +kernel
theorem dX8_descend_83 : decode cX8_descend 83 = .ok (.iload_n 2, 1) := by decide +kernel
theorem dX8_descend_84 : decode cX8_descend 84 = .ok (.invokevirtual 79, 3) := by decide +kernel
theorem dX8_descend_87 : decode cX8_descend 87 = .ok (.lstore 9, 2) := by decide +kernel
theorem dX8_descend_89 : decode cX8_descend 89 = .ok (.aload_n 0, 1) := by decide +kernel
theorem dX8_descend_90 : decode cX8_descend 90 = .ok (.getfield 26, 3) := by decide +kernel
theorem dX8_descend_93 : decode cX8_descend 93 = .ok (.iconst 2, 1) := by decide +kernel
theorem dX8_descend_94 : decode cX8_descend 94 = .ok (.if_icmp .ne 16, 3) := by decide +kernel
theorem dX8_descend_97 : decode cX8_descend 97 = .ok (.lload 9, 2) := by decide +kernel
theorem dX8_descend_99 : decode cX8_descend 99 = .ok (.aload_n 0, 1) := by decide +kernel
theorem dX8_descend_100 : decode cX8_descend 100 = .ok (.getfield 22, 3) := by decide +kernel
theorem dX8_descend_103 : decode cX8_descend 103 = .ok (.lcmp, 1) := by decide +kernel
theorem dX8_descend_104 : decode cX8_descend 104 = .ok (.ifCond .lt 6, 3) := by decide +kernel
theorem dX8_descend_107 : decode cX8_descend 107 = .ok (.goto 56, 3) := by decide +kernel
theorem dX8_descend_110 : decode cX8_descend 110 = .ok (.aload_n 0, 1) := by decide +kernel
theorem dX8_descend_111 : decode cX8_descend 111 = .ok (.getfield 15, 3) := by decide +kernel
theorem dX8_descend_114 : decode cX8_descend 114 = .ok (.iload 7, 2) := by decide +kernel
theorem dX8_descend_116 : decode cX8_descend 116 = .ok (.iload 8, 2) := by decide +kernel
theorem dX8_descend_118 : decode cX8_descend 118 = .ok (.iconst 1, 1) := by decide +kernel
theorem dX8_descend_119 : decode cX8_descend 119 = .ok (.iload_n 2, 1) := by decide +kernel
theorem dX8_descend_120 : decode cX8_descend 120 = .ok (.ishl, 1) := by decide +kernel
theorem dX8_descend_121 : decode cX8_descend 121 = .ok (.ior, 1) := by decide +kernel
theorem dX8_descend_122 : decode cX8_descend 122 = .ok (.iastore, 1) := by decide +kernel
theorem dX8_descend_123 : decode cX8_descend 123 = .ok (.aload_n 0, 1) := by decide +kernel
theorem dX8_descend_124 : decode cX8_descend 124 = .ok (.getfield 19, 3) := by decide +kernel
theorem dX8_descend_127 : decode cX8_descend 127 = .ok (.iload_n 2, 1) := by decide +kernel
theorem dX8_descend_128 : decode cX8_descend 128 = .ok (.iload 7, 2) := by decide +kernel
theorem dX8_descend_130 : decode cX8_descend 130 = .ok (.iastore, 1) := by decide +kernel
theorem dX8_descend_131 : decode cX8_descend 131 = .ok (.aload_n 0, 1) := by decide +kernel
theorem dX8_descend_132 : decode cX8_descend 132 = .ok (.aload_n 1, 1) := by decide +kernel
theorem dX8_descend_133 : decode cX8_descend 133 = .ok (.iload_n 2, 1) := by decide +kernel
theorem dX8_descend_134 : decode cX8_descend 134 = .ok (.iconst 1, 1) := by decide +kernel
theorem dX8_descend_135 : decode cX8_descend 135 = .ok (.iadd, 1) := by decide +kernel
theorem dX8_descend_136 : decode cX8_descend 136 = .ok (.iload 7, 2) := by decide +kernel
theorem dX8_descend_138 : decode cX8_descend 138 = .ok (.iload_n 3, 1) := by decide +kernel
theorem dX8_descend_139 : decode cX8_descend 139 = .ok (.if_icmp .ne 9, 3) := by decide +kernel
theorem dX8_descend_142 : decode cX8_descend 142 = .ok (.iload_n 3, 1) := by decide +kernel
theorem dX8_descend_143 : decode cX8_descend 143 = .ok (.iconst 1, 1) := by decide +kernel
theorem dX8_descend_144 : decode cX8_descend 144 = .ok (.iadd, 1) := by decide +kernel
theorem dX8_descend_145 : decode cX8_descend 145 = .ok (.goto 4, 3) := by decide +kernel
theorem dX8_descend_148 : decode cX8_descend 148 = .ok (.iload_n 3, 1) := by decide +kernel
theorem dX8_descend_149 : decode cX8_descend 149 = .ok (.lload 9, 2) := by decide +kernel
theorem dX8_descend_151 : decode cX8_descend 151 = .ok (.invokevirtual 56, 3) := by decide +kernel
theorem dX8_descend_154 : decode cX8_descend 154 = .ok (.aload_n 0, 1) := by decide +kernel
theorem dX8_descend_155 : decode cX8_descend 155 = .ok (.getfield 15, 3) := by decide +kernel
theorem dX8_descend_158 : decode cX8_descend 158 = .ok (.iload 7, 2) := by decide +kernel
theorem dX8_descend_160 : decode cX8_descend 160 = .ok (.iload 8, 2) := by decide +kernel
theorem dX8_descend_162 : decode cX8_descend 162 = .ok (.iastore, 1) := by decide +kernel
theorem dX8_descend_163 : decode cX8_descend 163 = .ok (.iinc 7 1, 3) := by decide +kernel
theorem dX8_descend_166 : decode cX8_descend 166 = .ok (.goto (-112), 3) := by decide +kernel
theorem dX8_descend_169 : decode cX8_descend 169 = .ok (.return_, 1) := by decide +kernel
theorem dX8_grown_0 : decode cX8_grown 0 = .ok (.aload_n 0, 1) := by decide +kernel
theorem dX8_grown_1 : decode cX8_grown 1 = .ok (.getfield 26, 3) := by decide +kernel
theorem dX8_grown_4 : decode cX8_grown 4 = .ok (.iconst 2, 1) := by decide +kernel
theorem dX8_grown_5 : decode cX8_grown 5 = .ok (.if_icmp .ne 19, 3) := by decide +kernel
theorem dX8_grown_8 : decode cX8_grown 8 = .ok (.lload_n 2, 1) := by decide +kernel
theorem dX8_grown_9 : decode cX8_grown 9 = .ok (.aload_n 1, 1) := by decide +kernel
theorem dX8_grown_10 : decode cX8_grown 10 = .ok (.iload 5, 2) := by decide +kernel
theorem dX8_grown_12 : decode cX8_grown 12 = .ok (.iload 4, 2) := by decide +kernel
theorem dX8_grown_14 : decode cX8_grown 14 = .ok (.iload 5, 2) := by decide +kernel
theorem dX8_grown_16 : decode cX8_grown 16 = .ok (.invokestatic 83, 3) := by decide +kernel
theorem dX8_grown_19 : decode cX8_grown 19 = .ok (.i2l, 1) := by decide +kernel
theorem dX8_grown_20 : decode cX8_grown 20 = .ok (.invokestatic 87, 3) := by decide +kernel
theorem dX8_grown_23 : decode cX8_grown 23 = .ok (.lreturn, 1) := by decide +kernel
theorem dX8_grown_24 : decode cX8_grown 24 = .ok (.iload 4, 2) := by decide +kernel
theorem dX8_grown_26 : decode cX8_grown 26 = .ok (.iconst 1, 1) := by decide +kernel
theorem dX8_grown_27 : decode cX8_grown 27 = .ok (.iload 5, 2) := by decide +kernel
theorem dX8_grown_29 : decode cX8_grown 29 = .ok (.ishl, 1) := by decide +kernel
theorem dX8_grown_30 : decode cX8_grown 30 = .ok (.ior, 1) := by decide +kernel
theorem dX8_grown_31 : decode cX8_grown 31 = .ok (.istore 6, 2) := by decide +kernel
theorem dX8_grown_33 : decode cX8_grown 33 = .ok (.iload 6, 2) := by decide +kernel
theorem dX8_grown_35 : decode cX8_grown 35 = .ok (.aload_n 0, 1) := by decide +kernel
theorem dX8_grown_36 : decode cX8_grown 36 = .ok (.getfield 9, 3) := by decide +kernel
theorem dX8_grown_39 : decode cX8_grown 39 = .ok (.arraylength, 1) := by decide +kernel
theorem dX8_grown_40 : decode cX8_grown 40 = .ok (.if_icmp .lt 5, 3) := by decide +kernel
theorem dX8_grown_43 : decode cX8_grown 43 = .ok (.lload_n 2, 1) := by decide +kernel
theorem dX8_grown_44 : decode cX8_grown 44 = .ok (.lreturn, 1) := by decide +kernel
theorem dX8_grown_45 : decode cX8_grown 45 = .ok (.lload_n 2, 1) := by decide +kernel
theorem dX8_grown_46 : decode cX8_grown 46 = .ok (.aload_n 0, 1) := by decide +kernel
theorem dX8_grown_47 : decode cX8_grown 47 = .ok (.getfield 9, 3) := by decide +kernel
theorem dX8_grown_50 : decode cX8_grown 50 = .ok (.iload 4, 2) := by decide +kernel
theorem dX8_grown_52 : decode cX8_grown 52 = .ok (.laload, 1) := by decide +kernel
theorem dX8_grown_53 : decode cX8_grown 53 = .ok (.lsub, 1) := by decide +kernel
theorem dX8_grown_54 : decode cX8_grown 54 = .ok (.aload_n 0, 1) := by decide +kernel
theorem dX8_grown_55 : decode cX8_grown 55 = .ok (.getfield 9, 3) := by decide +kernel
theorem dX8_grown_58 : decode cX8_grown 58 = .ok (.iload 6, 2) := by decide +kernel
theorem dX8_grown_60 : decode cX8_grown 60 = .ok (.laload, 1) := by decide +kernel
theorem dX8_grown_61 : decode cX8_grown 61 = .ok (.ladd, 1) := by decide +kernel
theorem dX8_grown_62 : decode cX8_grown 62 = .ok (.lreturn, 1) := by decide +kernel
theorem dX8_take_0 : decode cX8_take 0 = .ok (.iload_n 2, 1) := by decide +kernel
theorem dX8_take_1 : decode cX8_take 1 = .ok (.aload_n 0, 1) := by decide +kernel
theorem dX8_take_2 : decode cX8_take 2 = .ok (.getfield 30, 3) := by decide +kernel
theorem dX8_take_5 : decode cX8_take 5 = .ok (.if_icmp .lt 12, 3) := by decide +kernel
theorem dX8_take_8 : decode cX8_take 8 = .ok (.lload_n 3, 1) := by decide +kernel
theorem dX8_take_9 : decode cX8_take 9 = .ok (.aload_n 0, 1) := by decide +kernel
theorem dX8_take_10 : decode cX8_take 10 = .ok (.getfield 22, 3) := by decide +kernel
theorem dX8_take_13 : decode cX8_take 13 = .ok (.lcmp, 1) := by decide +kernel
theorem dX8_take_14 : decode cX8_take 14 = .ok (.ifCond .lt 4, 3) := by decide +kernel
theorem dX8_take_17 : decode cX8_take 17 = .ok (.return_, 1) := by decide +kernel
theorem dX8_take_18 : decode cX8_take 18 = .ok (.aload_n 0, 1) := by decide +kernel
theorem dX8_take_19 : decode cX8_take 19 = .ok (.lload_n 3, 1) := by decide +kernel
theorem dX8_take_20 : decode cX8_take 20 = .ok (.putfield 22, 3) := by decide +kernel
theorem dX8_take_23 : decode cX8_take 23 = .ok (.aload_n 0, 1) := by decide +kernel
theorem dX8_take_24 : decode cX8_take 24 = .ok (.getfield 19, 3) := by decide +kernel
theorem dX8_take_27 : decode cX8_take 27 = .ok (.iconst 0, 1) := by decide +kernel
theorem dX8_take_28 : decode cX8_take 28 = .ok (.aload_n 1, 1) := by decide +kernel
theorem dX8_take_29 : decode cX8_take 29 = .ok (.getfield 91, 3) := by decide +kernel
theorem dX8_take_32 : decode cX8_take 32 = .ok (.getfield 95, 3) := by decide +kernel
theorem dX8_take_35 : decode cX8_take 35 = .ok (.iconst 0, 1) := by decide +kernel
theorem dX8_take_36 : decode cX8_take 36 = .ok (.aload_n 1, 1) := by decide +kernel
theorem dX8_take_37 : decode cX8_take 37 = .ok (.getfield 60, 3) := by decide +kernel
theorem dX8_take_40 : decode cX8_take 40 = .ok (.invokestatic 98, 3) := by decide +kernel
theorem dX8_take_43 : decode cX8_take 43 = .ok (.aload_n 1, 1) := by decide +kernel
theorem dX8_take_44 : decode cX8_take 44 = .ok (.getfield 91, 3) := by decide +kernel
theorem dX8_take_47 : decode cX8_take 47 = .ok (.iload_n 2, 1) := by decide +kernel
theorem dX8_take_48 : decode cX8_take 48 = .ok (.putfield 104, 3) := by decide +kernel
theorem dX8_take_51 : decode cX8_take 51 = .ok (.return_, 1) := by decide +kernel
theorem dX9_init_0 : decode cX9_init 0 = .ok (.aload_n 0, 1) := by decide +kernel
theorem dX9_init_1 : decode cX9_init 1 = .ok (.invokespecial 3, 3) := by decide +kernel
theorem dX9_init_4 : decode cX9_init 4 = .ok (.aload_n 0, 1) := by decide +kernel
theorem dX9_init_5 : decode cX9_init 5 = .ok (.iconst (-1), 1) := by decide +kernel
theorem dX9_init_6 : decode cX9_init 6 = .ok (.putfield 9, 3) := by decide +kernel
theorem dX9_init_9 : decode cX9_init 9 = .ok (.aload_n 0, 1) := by decide +kernel
theorem dX9_init_10 : decode cX9_init 10 = .ok (.iconst (-1), 1) := by decide +kernel
theorem dX9_init_11 : decode cX9_init 11 = .ok (.putfield 15, 3) := by decide +kernel
theorem dX9_init_14 : decode cX9_init 14 = .ok (.aload_n 0, 1) := by decide +kernel
theorem dX9_init_15 : decode cX9_init 15 = .ok (.bipush 8, 2) := by decide +kernel
theorem dX9_init_17 : decode cX9_init 17 = .ok (.newarray .long, 2) := by decide +kernel
theorem dX9_init_19 : decode cX9_init 19 = .ok (.putfield 18, 3) := by decide +kernel
theorem dX9_init_22 : decode cX9_init 22 = .ok (.return_, 1) := by decide +kernel
theorem dX9_renew_0 : decode cX9_renew 0 = .ok (.aload_n 0, 1) := by decide +kernel
theorem dX9_renew_1 : decode cX9_renew 1 = .ok (.iload_n 1, 1) := by decide +kernel
theorem dX9_renew_2 : decode cX9_renew 2 = .ok (.putfield 9, 3) := by decide +kernel
theorem dX9_renew_5 : decode cX9_renew 5 = .ok (.aload_n 0, 1) := by decide +kernel
theorem dX9_renew_6 : decode cX9_renew 6 = .ok (.iload_n 2, 1) := by decide +kernel
theorem dX9_renew_7 : decode cX9_renew 7 = .ok (.putfield 15, 3) := by decide +kernel
theorem dX9_renew_10 : decode cX9_renew 10 = .ok (.aload_n 0, 1) := by decide +kernel
theorem dX9_renew_11 : decode cX9_renew 11 = .ok (.getfield 18, 3) := by decide +kernel
theorem dX9_renew_14 : decode cX9_renew 14 = .ok (.lconst 0, 1) := by decide +kernel
theorem dX9_renew_15 : decode cX9_renew 15 = .ok (.invokestatic 22, 3) := by decide +kernel
theorem dX9_renew_18 : decode cX9_renew 18 = .ok (.return_, 1) := by decide +kernel
theorem dX9_drop_0 : decode cX9_drop 0 = .ok (.aload_n 0, 1) := by decide +kernel
theorem dX9_drop_1 : decode cX9_drop 1 = .ok (.iconst (-1), 1) := by decide +kernel
theorem dX9_drop_2 : decode cX9_drop 2 = .ok (.iconst (-1), 1) := by decide +kernel
theorem dX9_drop_3 : decode cX9_drop 3 = .ok (.invokevirtual 28, 3) := by decide +kernel
theorem dX9_drop_6 : decode cX9_drop 6 = .ok (.return_, 1) := by decide +kernel
theorem dX9_write_0 : decode cX9_write 0 = .ok (.aload_n 0, 1) := by decide +kernel
theorem dX9_write_1 : decode cX9_write 1 = .ok (.getfield 9, 3) := by decide +kernel
theorem dX9_write_4 : decode cX9_write 4 = .ok (.tableswitch 66 0 2 #[28, 41, 54], 28) := by decide +kernel
theorem dX9_write_32 : decode cX9_write 32 = .ok (.aload_n 0, 1) := by decide +kernel
theorem dX9_write_33 : decode cX9_write 33 = .ok (.getfield 18, 3) := by decide +kernel
theorem dX9_write_36 : decode cX9_write 36 = .ok (.iload_n 1, 1) := by decide +kernel
theorem dX9_write_37 : decode cX9_write 37 = .ok (.lload_n 2, 1) := by decide +kernel
theorem dX9_write_38 : decode cX9_write 38 = .ok (.l2i, 1) := by decide +kernel
theorem dX9_write_39 : decode cX9_write 39 = .ok (.i2b, 1) := by decide +kernel
theorem dX9_write_40 : decode cX9_write 40 = .ok (.i2l, 1) := by decide +kernel
theorem dX9_write_41 : decode cX9_write 41 = .ok (.lastore, 1) := by decide +kernel
theorem dX9_write_42 : decode cX9_write 42 = .ok (.goto 35, 3) := by decide +kernel
theorem dX9_write_45 : decode cX9_write 45 = .ok (.aload_n 0, 1) := by decide +kernel
theorem dX9_write_46 : decode cX9_write 46 = .ok (.getfield 18, 3) := by decide +kernel
theorem dX9_write_49 : decode cX9_write 49 = .ok (.iload_n 1, 1) := by decide +kernel
theorem dX9_write_50 : decode cX9_write 50 = .ok (.lload_n 2, 1) := by decide +kernel
theorem dX9_write_51 : decode cX9_write 51 = .ok (.l2i, 1) := by decide +kernel
theorem dX9_write_52 : decode cX9_write 52 = .ok (.i2s, 1) := by decide +kernel
theorem dX9_write_53 : decode cX9_write 53 = .ok (.i2l, 1) := by decide +kernel
theorem dX9_write_54 : decode cX9_write 54 = .ok (.lastore, 1) := by decide +kernel
theorem dX9_write_55 : decode cX9_write 55 = .ok (.goto 22, 3) := by decide +kernel
theorem dX9_write_58 : decode cX9_write 58 = .ok (.aload_n 0, 1) := by decide +kernel
theorem dX9_write_59 : decode cX9_write 59 = .ok (.getfield 18, 3) := by decide +kernel
theorem dX9_write_62 : decode cX9_write 62 = .ok (.iload_n 1, 1) := by decide +kernel
theorem dX9_write_63 : decode cX9_write 63 = .ok (.lload_n 2, 1) := by decide +kernel
theorem dX9_write_64 : decode cX9_write 64 = .ok (.l2i, 1) := by decide +kernel
theorem dX9_write_65 : decode cX9_write 65 = .ok (.i2l, 1) := by decide +kernel
theorem dX9_write_66 : decode cX9_write 66 = .ok (.lastore, 1) := by decide +kernel
theorem dX9_write_67 : decode cX9_write 67 = .ok (.goto 10, 3) := by decide +kernel
theorem dX9_write_70 : decode cX9_write 70 = .ok (.aload_n 0, 1) := by decide +kernel
theorem dX9_write_71 : decode cX9_write 71 = .ok (.getfield 18, 3) := by decide +kernel
theorem dX9_write_74 : decode cX9_write 74 = .ok (.iload_n 1, 1) := by decide +kernel
theorem dX9_write_75 : decode cX9_write 75 = .ok (.lload_n 2, 1) := by decide +kernel
theorem dX9_write_76 : decode cX9_write 76 = .ok (.lastore, 1) := by decide +kernel
theorem dX9_write_77 : decode cX9_write 77 = .ok (.return_, 1) := by decide +kernel
theorem dX9_isPlace_0 : decode cX9_isPlace 0 = .ok (.iconst 0, 1) := by decide +kernel
theorem dX9_isPlace_1 : decode cX9_isPlace 1 = .ok (.istore_n 1, 1) := by decide +kernel
theorem dX9_isPlace_2 : decode cX9_isPlace 2 = .ok (.iload_n 1, 1) := by decide +kernel
theorem dX9_isPlace_3 : decode cX9_isPlace 3 = .ok (.iconst 4, 1) := by decide +kernel
theorem dX9_isPlace_4 : decode cX9_isPlace 4 = .ok (.if_icmp .ge 37, 3) := by decide +kernel
theorem dX9_isPlace_7 : decode cX9_isPlace 7 = .ok (.aload_n 0, 1) := by decide +kernel
theorem dX9_isPlace_8 : decode cX9_isPlace 8 = .ok (.getfield 18, 3) := by decide +kernel
theorem dX9_isPlace_11 : decode cX9_isPlace 11 = .ok (.iload_n 1, 1) := by decide +kernel
theorem dX9_isPlace_12 : decode cX9_isPlace 12 = .ok (.laload, 1) := by decide +kernel
theorem dX9_isPlace_13 : decode cX9_isPlace 13 = .ok (.ldc2_w 32, 3) := by decide +kernel
theorem dX9_isPlace_16 : decode cX9_isPlace 16 = .ok (.lcmp, 1) := by decide +kernel
theorem dX9_isPlace_17 : decode cX9_isPlace 17 = .ok (.ifCond .lt 16, 3) := by decide +kernel
theorem dX9_isPlace_20 : decode cX9_isPlace 20 = .ok (.aload_n 0, 1) := by decide +kernel
theorem dX9_isPlace_21 : decode cX9_isPlace 21 = .ok (.getfield 18, 3) := by decide +kernel
theorem dX9_isPlace_24 : decode cX9_isPlace 24 = .ok (.iload_n 1, 1) := by decide +kernel
theorem dX9_isPlace_25 : decode cX9_isPlace 25 = .ok (.laload, 1) := by decide +kernel
theorem dX9_isPlace_26 : decode cX9_isPlace 26 = .ok (.ldc2_w 34, 3) := by decide +kernel
theorem dX9_isPlace_29 : decode cX9_isPlace 29 = .ok (.lcmp, 1) := by decide +kernel
theorem dX9_isPlace_30 : decode cX9_isPlace 30 = .ok (.ifCond .le 5, 3) := by decide +kernel
theorem dX9_isPlace_33 : decode cX9_isPlace 33 = .ok (.iconst 0, 1) := by decide +kernel
theorem dX9_isPlace_34 : decode cX9_isPlace 34 = .ok (.ireturn, 1) := by decide +kernel
theorem dX9_isPlace_35 : decode cX9_isPlace 35 = .ok (.iinc 1 1, 3) := by decide +kernel
theorem dX9_isPlace_38 : decode cX9_isPlace 38 = .ok (.goto (-36), 3) := by decide +kernel
theorem dX9_isPlace_41 : decode cX9_isPlace 41 = .ok (.iconst 1, 1) := by decide +kernel
theorem dX9_isPlace_42 : decode cX9_isPlace 42 = .ok (.ireturn, 1) := by decide +kernel
theorem dX10_init_0 : decode cX10_init 0 = .ok (.aload_n 0, 1) := by decide +kernel
theorem dX10_init_1 : decode cX10_init 1 = .ok (.invokespecial 3, 3) := by decide +kernel
theorem dX10_init_4 : decode cX10_init 4 = .ok (.aload_n 0, 1) := by decide +kernel
theorem dX10_init_5 : decode cX10_init 5 = .ok (.iconst (-1), 1) := by decide +kernel
theorem dX10_init_6 : decode cX10_init 6 = .ok (.putfield 9, 3) := by decide +kernel
theorem dX10_init_9 : decode cX10_init 9 = .ok (.aload_n 0, 1) := by decide +kernel
theorem dX10_init_10 : decode cX10_init 10 = .ok (.iconst 0, 1) := by decide +kernel
theorem dX10_init_11 : decode cX10_init 11 = .ok (.putfield 15, 3) := by decide +kernel
theorem dX10_init_14 : decode cX10_init 14 = .ok (.aload_n 0, 1) := by decide +kernel
theorem dX10_init_15 : decode cX10_init 15 = .ok (.bipush 12, 2) := by decide +kernel
theorem dX10_init_17 : decode cX10_init 17 = .ok (.newarray .int, 2) := by decide +kernel
theorem dX10_init_19 : decode cX10_init 19 = .ok (.putfield 18, 3) := by decide +kernel
theorem dX10_init_22 : decode cX10_init 22 = .ok (.aload_n 0, 1) := by decide +kernel
theorem dX10_init_23 : decode cX10_init 23 = .ok (.bipush 12, 2) := by decide +kernel
theorem dX10_init_25 : decode cX10_init 25 = .ok (.newarray .int, 2) := by decide +kernel
theorem dX10_init_27 : decode cX10_init 27 = .ok (.putfield 22, 3) := by decide +kernel
theorem dX10_init_30 : decode cX10_init 30 = .ok (.aload_n 0, 1) := by decide +kernel
theorem dX10_init_31 : decode cX10_init 31 = .ok (.bipush 12, 2) := by decide +kernel
theorem dX10_init_33 : decode cX10_init 33 = .ok (.newarray .int, 2) := by decide +kernel
theorem dX10_init_35 : decode cX10_init 35 = .ok (.putfield 25, 3) := by decide +kernel
theorem dX10_init_38 : decode cX10_init 38 = .ok (.aload_n 0, 1) := by decide +kernel
theorem dX10_init_39 : decode cX10_init 39 = .ok (.sipush 144, 3) := by decide +kernel
theorem dX10_init_42 : decode cX10_init 42 = .ok (.newarray .int, 2) := by decide +kernel
theorem dX10_init_44 : decode cX10_init 44 = .ok (.putfield 28, 3) := by decide +kernel
theorem dX10_init_47 : decode cX10_init 47 = .ok (.aload_n 0, 1) := by decide +kernel
theorem dX10_init_48 : decode cX10_init 48 = .ok (.iconst 0, 1) := by decide +kernel
theorem dX10_init_49 : decode cX10_init 49 = .ok (.putfield 31, 3) := by decide +kernel
theorem dX10_init_52 : decode cX10_init 52 = .ok (.return_, 1) := by decide +kernel
theorem dX10_drop_0 : decode cX10_drop 0 = .ok (.aload_n 0, 1) := by decide +kernel
theorem dX10_drop_1 : decode cX10_drop 1 = .ok (.iconst (-1), 1) := by decide +kernel
theorem dX10_drop_2 : decode cX10_drop 2 = .ok (.putfield 9, 3) := by decide +kernel
theorem dX10_drop_5 : decode cX10_drop 5 = .ok (.return_, 1) := by decide +kernel
theorem dX10_grow_0 : decode cX10_grow 0 = .ok (.aload_n 0, 1) := by decide +kernel
theorem dX10_grow_1 : decode cX10_grow 1 = .ok (.aload_n 1, 1) := by decide +kernel
theorem dX10_grow_2 : decode cX10_grow 2 = .ok (.getfield 34, 3) := by decide +kernel
theorem dX10_grow_5 : decode cX10_grow 5 = .ok (.putfield 15, 3) := by decide +kernel
theorem dX10_grow_8 : decode cX10_grow 8 = .ok (.aload_n 1, 1) := by decide +kernel
theorem dX10_grow_9 : decode cX10_grow 9 = .ok (.getfield 37, 3) := by decide +kernel
theorem dX10_grow_12 : decode cX10_grow 12 = .ok (.iconst 0, 1) := by decide +kernel
theorem dX10_grow_13 : decode cX10_grow 13 = .ok (.aload_n 0, 1) := by decide +kernel
theorem dX10_grow_14 : decode cX10_grow 14 = .ok (.getfield 28, 3) := by decide +kernel
theorem dX10_grow_17 : decode cX10_grow 17 = .ok (.iconst 0, 1) := by decide +kernel
theorem dX10_grow_18 : decode cX10_grow 18 = .ok (.aload_n 0, 1) := by decide +kernel
theorem dX10_grow_19 : decode cX10_grow 19 = .ok (.getfield 28, 3) := by decide +kernel
theorem dX10_grow_22 : decode cX10_grow 22 = .ok (.arraylength, 1) := by decide +kernel
theorem dX10_grow_23 : decode cX10_grow 23 = .ok (.invokestatic 40, 3) := by decide +kernel
theorem dX10_grow_26 : decode cX10_grow 26 = .ok (.aload_n 0, 1) := by decide +kernel
theorem dX10_grow_27 : decode cX10_grow 27 = .ok (.iconst 1, 1) := by decide +kernel
theorem dX10_grow_28 : decode cX10_grow 28 = .ok (.aload_n 0, 1) := by decide +kernel
theorem dX10_grow_29 : decode cX10_grow 29 = .ok (.getfield 15, 3) := by decide +kernel
theorem dX10_grow_32 : decode cX10_grow 32 = .ok (.ishl, 1) := by decide +kernel
theorem dX10_grow_33 : decode cX10_grow 33 = .ok (.iconst 1, 1) := by decide +kernel
theorem dX10_grow_34 : decode cX10_grow 34 = .ok (.isub, 1) := by decide +kernel
theorem dX10_grow_35 : decode cX10_grow 35 = .ok (.putfield 31, 3) := by decide +kernel
theorem dX10_grow_38 : decode cX10_grow 38 = .ok (.aload_n 0, 1) := by decide +kernel
theorem dX10_grow_39 : decode cX10_grow 39 = .ok (.aload_n 0, 1) := by decide +kernel
theorem dX10_grow_40 : decode cX10_grow 40 = .ok (.getfield 15, 3) := by decide +kernel
theorem dX10_grow_43 : decode cX10_grow 43 = .ok (.iconst 1, 1) := by decide +kernel
theorem dX10_grow_44 : decode cX10_grow 44 = .ok (.isub, 1) := by decide +kernel
theorem dX10_grow_45 : decode cX10_grow 45 = .ok (.putfield 9, 3) := by decide +kernel
theorem dX10_grow_48 : decode cX10_grow 48 = .ok (.iconst 0, 1) := by decide +kernel
theorem dX10_grow_49 : decode cX10_grow 49 = .ok (.istore_n 3, 1) := by decide +kernel
theorem dX10_grow_50 : decode cX10_grow 50 = .ok (.iload_n 3, 1) := by decide +kernel
theorem dX10_grow_51 : decode cX10_grow 51 = .ok (.aload_n 0, 1) := by decide +kernel
theorem dX10_grow_52 : decode cX10_grow 52 = .ok (.getfield 15, 3) := by decide +kernel
theorem dX10_grow_55 : decode cX10_grow 55 = .ok (.iconst 1, 1) := by decide +kernel
theorem dX10_grow_56 : decode cX10_grow 56 = .ok (.isub, 1) := by decide +kernel
theorem dX10_grow_57 : decode cX10_grow 57 = .ok (.if_icmp .ge 20, 3) := by decide +kernel
theorem dX10_grow_60 : decode cX10_grow 60 = .ok (.aload_n 0, 1) := by decide +kernel
theorem dX10_grow_61 : decode cX10_grow 61 = .ok (.iload_n 3, 1) := by decide +kernel
theorem dX10_grow_62 : decode cX10_grow 62 = .ok (.invokevirtual 46, 3) := by decide +kernel
theorem dX10_grow_65 : decode cX10_grow 65 = .ok (.aload_n 0, 1) := by decide +kernel
theorem dX10_grow_66 : decode cX10_grow 66 = .ok (.iload_n 3, 1) := by decide +kernel
theorem dX10_grow_67 : decode cX10_grow 67 = .ok (.iload_n 2, 1) := by decide +kernel
theorem dX10_grow_68 : decode cX10_grow 68 = .ok (.invokevirtual 50, 3) := by decide +kernel
theorem dX10_grow_71 : decode cX10_grow 71 = .ok (.iinc 3 1, 3) := by decide +kernel
theorem dX10_grow_74 : decode cX10_grow 74 = .ok (.goto (-24), 3) := by decide +kernel
theorem dX10_grow_77 : decode cX10_grow 77 = .ok (.return_, 1) := by decide +kernel
theorem dX10_findLowest_0 : decode cX10_findLowest 0 = .ok (.aload_n 0, 1) := by decide +kernel
theorem dX10_findLowest_1 : decode cX10_findLowest 1 = .ok (.getfield 25, 3) := by decide +kernel
theorem dX10_findLowest_4 : decode cX10_findLowest 4 = .ok (.iload_n 1, 1) := by decide +kernel
theorem dX10_findLowest_5 : decode cX10_findLowest 5 = .ok (.ldc 56, 2) := by decide +kernel
theorem dX10_findLowest_7 : decode cX10_findLowest 7 = .ok (.iastore, 1) := by decide +kernel
theorem dX10_findLowest_8 : decode cX10_findLowest 8 = .ok (.iconst 0, 1) := by decide +kernel
theorem dX10_findLowest_9 : decode cX10_findLowest 9 = .ok (.istore_n 2, 1) := by decide +kernel
theorem dX10_findLowest_10 : decode cX10_findLowest 10 = .ok (.iload_n 2, 1) := by decide +kernel
theorem dX10_findLowest_11 : decode cX10_findLowest 11 = .ok (.aload_n 0, 1) := by decide +kernel
theorem dX10_findLowest_12 : decode cX10_findLowest 12 = .ok (.getfield 15, 3) := by decide +kernel
theorem dX10_findLowest_15 : decode cX10_findLowest 15 = .ok (.if_icmp .ge 95, 3) := by decide +kernel
theorem dX10_findLowest_18 : decode cX10_findLowest 18 = .ok (.iload_n 2, 1) := by decide +kernel
theorem dX10_findLowest_19 : decode cX10_findLowest 19 = .ok (.iconst 1, 1) := by decide +kernel
theorem dX10_findLowest_20 : decode cX10_findLowest 20 = .ok (.iadd, 1) := by decide +kernel
theorem dX10_findLowest_21 : decode cX10_findLowest 21 = .ok (.istore_n 3, 1) := by decide +kernel
theorem dX10_findLowest_22 : decode cX10_findLowest 22 = .ok (.iload_n 3, 1) := by decide +kernel
theorem dX10_findLowest_23 : decode cX10_findLowest 23 = .ok (.aload_n 0, 1) := by decide +kernel
theorem dX10_findLowest_24 : decode cX10_findLowest 24 = .ok (.getfield 15, 3) := by decide +kernel
theorem dX10_findLowest_27 : decode cX10_findLowest 27 = .ok (.if_icmp .ge 77, 3) := by decide +kernel
theorem dX10_findLowest_30 : decode cX10_findLowest 30 = .ok (.aload_n 0, 1) := by decide +kernel
theorem dX10_findLowest_31 : decode cX10_findLowest 31 = .ok (.getfield 31, 3) := by decide +kernel
theorem dX10_findLowest_34 : decode cX10_findLowest 34 = .ok (.iload_n 2, 1) := by decide +kernel
theorem dX10_findLowest_35 : decode cX10_findLowest 35 = .ok (.invokestatic 57, 3) := by decide +kernel
theorem dX10_findLowest_38 : decode cX10_findLowest 38 = .ok (.ifCond .eq 66, 3) := by decide +kernel
theorem dX10_findLowest_41 : decode cX10_findLowest 41 = .ok (.aload_n 0, 1) := by decide +kernel
theorem dX10_findLowest_42 : decode cX10_findLowest 42 = .ok (.getfield 28, 3) := by decide +kernel
theorem dX10_findLowest_45 : decode cX10_findLowest 45 = .ok (.iload_n 2, 1) := by decide +kernel
theorem dX10_findLowest_46 : decode cX10_findLowest 46 = .ok (.bipush 12, 2) := by decide +kernel
theorem dX10_findLowest_48 : decode cX10_findLowest 48 = .ok (.imul, 1) := by decide +kernel
theorem dX10_findLowest_49 : decode cX10_findLowest 49 = .ok (.iload_n 3, 1) := by decide +kernel
theorem dX10_findLowest_50 : decode cX10_findLowest 50 = .ok (.iadd, 1) := by decide +kernel
theorem dX10_findLowest_51 : decode cX10_findLowest 51 = .ok (.iaload, 1) := by decide +kernel
theorem dX10_findLowest_52 : decode cX10_findLowest 52 = .ok (.istore 4, 2) := by decide +kernel
theorem dX10_findLowest_54 : decode cX10_findLowest 54 = .ok (.aload_n 0, 1) := by decide +kernel
theorem dX10_findLowest_55 : decode cX10_findLowest 55 = .ok (.getfield 31, 3) := by decide +kernel
theorem dX10_findLowest_58 : decode cX10_findLowest 58 = .ok (.iload_n 3, 1) := by decide +kernel
theorem dX10_findLowest_59 : decode cX10_findLowest 59 = .ok (.invokestatic 57, 3) := by decide +kernel
theorem dX10_findLowest_62 : decode cX10_findLowest 62 = .ok (.ifCond .eq 36, 3) := by decide +kernel
theorem dX10_findLowest_65 : decode cX10_findLowest 65 = .ok (.iload 4, 2) := by decide +kernel
theorem dX10_findLowest_67 : decode cX10_findLowest 67 = .ok (.aload_n 0, 1) := by decide +kernel
theorem dX10_findLowest_68 : decode cX10_findLowest 68 = .ok (.getfield 25, 3) := by decide +kernel
theorem dX10_findLowest_71 : decode cX10_findLowest 71 = .ok (.iload_n 1, 1) := by decide +kernel
theorem dX10_findLowest_72 : decode cX10_findLowest 72 = .ok (.iaload, 1) := by decide +kernel
theorem dX10_findLowest_73 : decode cX10_findLowest 73 = .ok (.if_icmp .ge 25, 3) := by decide +kernel
theorem dX10_findLowest_76 : decode cX10_findLowest 76 = .ok (.aload_n 0, 1) := by decide +kernel
theorem dX10_findLowest_77 : decode cX10_findLowest 77 = .ok (.getfield 18, 3) := by decide +kernel
theorem dX10_findLowest_80 : decode cX10_findLowest 80 = .ok (.iload_n 1, 1) := by decide +kernel
theorem dX10_findLowest_81 : decode cX10_findLowest 81 = .ok (.iload_n 2, 1) := by decide +kernel
theorem dX10_findLowest_82 : decode cX10_findLowest 82 = .ok (.iastore, 1) := by decide +kernel
theorem dX10_findLowest_83 : decode cX10_findLowest 83 = .ok (.aload_n 0, 1) := by decide +kernel
theorem dX10_findLowest_84 : decode cX10_findLowest 84 = .ok (.getfield 22, 3) := by decide +kernel
theorem dX10_findLowest_87 : decode cX10_findLowest 87 = .ok (.iload_n 1, 1) := by decide +kernel
theorem dX10_findLowest_88 : decode cX10_findLowest 88 = .ok (.iload_n 3, 1) := by decide +kernel
theorem dX10_findLowest_89 : decode cX10_findLowest 89 = .ok (.iastore, 1) := by decide +kernel
theorem dX10_findLowest_90 : decode cX10_findLowest 90 = .ok (.aload_n 0, 1) := by decide +kernel
theorem dX10_findLowest_91 : decode cX10_findLowest 91 = .ok (.getfield 25, 3) := by decide +kernel
theorem dX10_findLowest_94 : decode cX10_findLowest 94 = .ok (.iload_n 1, 1) := by decide +kernel
theorem dX10_findLowest_95 : decode cX10_findLowest 95 = .ok (.iload 4, 2) := by decide +kernel
theorem dX10_findLowest_97 : decode cX10_findLowest 97 = .ok (.iastore, 1) := by decide +kernel
theorem dX10_findLowest_98 : decode cX10_findLowest 98 = .ok (.iinc 3 1, 3) := by decide +kernel
theorem dX10_findLowest_101 : decode cX10_findLowest 101 = .ok (.goto (-79), 3) := by decide +kernel
theorem dX10_findLowest_104 : decode cX10_findLowest 104 = .ok (.iinc 2 1, 3) := by decide +kernel
theorem dX10_findLowest_107 : decode cX10_findLowest 107 = .ok (.goto (-97), 3) := by decide +kernel
theorem dX10_findLowest_110 : decode cX10_findLowest 110 = .ok (.return_, 1) := by decide +kernel
theorem dX10_joinLowest_0 : decode cX10_joinLowest 0 = .ok (.aload_n 0, 1) := by decide +kernel
theorem dX10_joinLowest_1 : decode cX10_joinLowest 1 = .ok (.getfield 18, 3) := by decide +kernel
theorem dX10_joinLowest_4 : decode cX10_joinLowest 4 = .ok (.iload_n 1, 1) := by decide +kernel
theorem dX10_joinLowest_5 : decode cX10_joinLowest 5 = .ok (.iaload, 1) := by decide +kernel
theorem dX10_joinLowest_6 : decode cX10_joinLowest 6 = .ok (.istore_n 3, 1) := by decide +kernel
theorem dX10_joinLowest_7 : decode cX10_joinLowest 7 = .ok (.aload_n 0, 1) := by decide +kernel
theorem dX10_joinLowest_8 : decode cX10_joinLowest 8 = .ok (.getfield 22, 3) := by decide +kernel
theorem dX10_joinLowest_11 : decode cX10_joinLowest 11 = .ok (.iload_n 1, 1) := by decide +kernel
theorem dX10_joinLowest_12 : decode cX10_joinLowest 12 = .ok (.iaload, 1) := by decide +kernel
theorem dX10_joinLowest_13 : decode cX10_joinLowest 13 = .ok (.istore 4, 2) := by decide +kernel
theorem dX10_joinLowest_15 : decode cX10_joinLowest 15 = .ok (.aload_n 0, 1) := by decide +kernel
theorem dX10_joinLowest_16 : decode cX10_joinLowest 16 = .ok (.dup, 1) := by decide +kernel
theorem dX10_joinLowest_17 : decode cX10_joinLowest 17 = .ok (.getfield 31, 3) := by decide +kernel
theorem dX10_joinLowest_20 : decode cX10_joinLowest 20 = .ok (.iconst 1, 1) := by decide +kernel
theorem dX10_joinLowest_21 : decode cX10_joinLowest 21 = .ok (.iload 4, 2) := by decide +kernel
theorem dX10_joinLowest_23 : decode cX10_joinLowest 23 = .ok (.ishl, 1) := by decide +kernel
theorem dX10_joinLowest_24 : decode cX10_joinLowest 24 = .ok (.iconst (-1), 1) := by decide +kernel
theorem dX10_joinLowest_25 : decode cX10_joinLowest 25 = .ok (.ixor, 1) := by decide +kernel
theorem dX10_joinLowest_26 : decode cX10_joinLowest 26 = .ok (.iand, 1) := by decide +kernel
theorem dX10_joinLowest_27 : decode cX10_joinLowest 27 = .ok (.putfield 31, 3) := by decide +kernel
theorem dX10_joinLowest_30 : decode cX10_joinLowest 30 = .ok (.iconst 0, 1) := by decide +kernel
theorem dX10_joinLowest_31 : decode cX10_joinLowest 31 = .ok (.istore 5, 2) := by decide +kernel
theorem dX10_joinLowest_33 : decode cX10_joinLowest 33 = .ok (.iload 5, 2) := by decide +kernel
theorem dX10_joinLowest_35 : decode cX10_joinLowest 35 = .ok (.aload_n 0, 1) := by decide +kernel
theorem dX10_joinLowest_36 : decode cX10_joinLowest 36 = .ok (.getfield 15, 3) := by decide +kernel
theorem dX10_joinLowest_39 : decode cX10_joinLowest 39 = .ok (.if_icmp .ge 89, 3) := by decide +kernel
theorem dX10_joinLowest_42 : decode cX10_joinLowest 42 = .ok (.aload_n 0, 1) := by decide +kernel
theorem dX10_joinLowest_43 : decode cX10_joinLowest 43 = .ok (.getfield 28, 3) := by decide +kernel
theorem dX10_joinLowest_46 : decode cX10_joinLowest 46 = .ok (.iload_n 3, 1) := by decide +kernel
theorem dX10_joinLowest_47 : decode cX10_joinLowest 47 = .ok (.bipush 12, 2) := by decide +kernel
theorem dX10_joinLowest_49 : decode cX10_joinLowest 49 = .ok (.imul, 1) := by decide +kernel
theorem dX10_joinLowest_50 : decode cX10_joinLowest 50 = .ok (.iload 5, 2) := by decide +kernel
theorem dX10_joinLowest_52 : decode cX10_joinLowest 52 = .ok (.iadd, 1) := by decide +kernel
theorem dX10_joinLowest_53 : decode cX10_joinLowest 53 = .ok (.iaload, 1) := by decide +kernel
theorem dX10_joinLowest_54 : decode cX10_joinLowest 54 = .ok (.istore 6, 2) := by decide +kernel
theorem dX10_joinLowest_56 : decode cX10_joinLowest 56 = .ok (.aload_n 0, 1) := by decide +kernel
theorem dX10_joinLowest_57 : decode cX10_joinLowest 57 = .ok (.getfield 28, 3) := by decide +kernel
theorem dX10_joinLowest_60 : decode cX10_joinLowest 60 = .ok (.iload 4, 2) := by decide +kernel
theorem dX10_joinLowest_62 : decode cX10_joinLowest 62 = .ok (.bipush 12, 2) := by decide +kernel
theorem dX10_joinLowest_64 : decode cX10_joinLowest 64 = .ok (.imul, 1) := by decide +kernel
theorem dX10_joinLowest_65 : decode cX10_joinLowest 65 = .ok (.iload 5, 2) := by decide +kernel
theorem dX10_joinLowest_67 : decode cX10_joinLowest 67 = .ok (.iadd, 1) := by decide +kernel
theorem dX10_joinLowest_68 : decode cX10_joinLowest 68 = .ok (.iaload, 1) := by decide +kernel
theorem dX10_joinLowest_69 : decode cX10_joinLowest 69 = .ok (.istore 7, 2) := by decide +kernel
theorem dX10_joinLowest_71 : decode cX10_joinLowest 71 = .ok (.iload_n 2, 1) := by decide +kernel
theorem dX10_joinLowest_72 : decode cX10_joinLowest 72 = .ok (.ifCond .ne 13, 3) := by decide +kernel
theorem dX10_joinLowest_75 : decode cX10_joinLowest 75 = .ok (.iload 6, 2) := by decide +kernel
theorem dX10_joinLowest_77 : decode cX10_joinLowest 77 = .ok (.iload 7, 2) := by decide +kernel
theorem dX10_joinLowest_79 : decode cX10_joinLowest 79 = .ok (.invokestatic 63, 3) := by decide +kernel
theorem dX10_joinLowest_82 : decode cX10_joinLowest 82 = .ok (.goto 10, 3) := by decide +kernel
theorem dX10_joinLowest_85 : decode cX10_joinLowest 85 = .ok (.iload 6, 2) := by decide +kernel
theorem dX10_joinLowest_87 : decode cX10_joinLowest 87 = .ok (.iload 7, 2) := by decide +kernel
theorem dX10_joinLowest_89 : decode cX10_joinLowest 89 = .ok (.invokestatic 69, 3) := by decide +kernel
theorem dX10_joinLowest_92 : decode cX10_joinLowest 92 = .ok (.istore 8, 2) := by decide +kernel
theorem dX10_joinLowest_94 : decode cX10_joinLowest 94 = .ok (.aload_n 0, 1) := by decide +kernel
theorem dX10_joinLowest_95 : decode cX10_joinLowest 95 = .ok (.getfield 28, 3) := by decide +kernel
theorem dX10_joinLowest_98 : decode cX10_joinLowest 98 = .ok (.iload_n 3, 1) := by decide +kernel
theorem dX10_joinLowest_99 : decode cX10_joinLowest 99 = .ok (.bipush 12, 2) := by decide +kernel
theorem dX10_joinLowest_101 : decode cX10_joinLowest 101 = .ok (.imul, 1) := by decide +kernel
theorem dX10_joinLowest_102 : decode cX10_joinLowest 102 = .ok (.iload 5, 2) := by decide +kernel
theorem dX10_joinLowest_104 : decode cX10_joinLowest 104 = .ok (.iadd, 1) := by decide +kernel
theorem dX10_joinLowest_105 : decode cX10_joinLowest 105 = .ok (.iload 8, 2) := by decide +kernel
theorem dX10_joinLowest_107 : decode cX10_joinLowest 107 = .ok (.iastore, 1) := by decide +kernel
theorem dX10_joinLowest_108 : decode cX10_joinLowest 108 = .ok (.aload_n 0, 1) := by decide +kernel
theorem dX10_joinLowest_109 : decode cX10_joinLowest 109 = .ok (.getfield 28, 3) := by decide +kernel
theorem dX10_joinLowest_112 : decode cX10_joinLowest 112 = .ok (.iload 5, 2) := by decide +kernel
theorem dX10_joinLowest_114 : decode cX10_joinLowest 114 = .ok (.bipush 12, 2) := by decide +kernel
theorem dX10_joinLowest_116 : decode cX10_joinLowest 116 = .ok (.imul, 1) := by decide +kernel
theorem dX10_joinLowest_117 : decode cX10_joinLowest 117 = .ok (.iload_n 3, 1) := by decide +kernel
theorem dX10_joinLowest_118 : decode cX10_joinLowest 118 = .ok (.iadd, 1) := by decide +kernel
theorem dX10_joinLowest_119 : decode cX10_joinLowest 119 = .ok (.iload 8, 2) := by decide +kernel
theorem dX10_joinLowest_121 : decode cX10_joinLowest 121 = .ok (.iastore, 1) := by decide +kernel
theorem dX10_joinLowest_122 : decode cX10_joinLowest 122 = .ok (.iinc 5 1, 3) := by decide +kernel
theorem dX10_joinLowest_125 : decode cX10_joinLowest 125 = .ok (.goto (-92), 3) := by decide +kernel
theorem dX10_joinLowest_128 : decode cX10_joinLowest 128 = .ok (.return_, 1) := by decide +kernel
theorem dX10_heightOf_0 : decode cX10_heightOf 0 = .ok (.iload_n 1, 1) := by decide +kernel
theorem dX10_heightOf_1 : decode cX10_heightOf 1 = .ok (.istore_n 3, 1) := by decide +kernel
theorem dX10_heightOf_2 : decode cX10_heightOf 2 = .ok (.iload_n 2, 1) := by decide +kernel
theorem dX10_heightOf_3 : decode cX10_heightOf 3 = .ok (.istore 4, 2) := by decide +kernel
theorem dX10_heightOf_5 : decode cX10_heightOf 5 = .ok (.iconst 0, 1) := by decide +kernel
theorem dX10_heightOf_6 : decode cX10_heightOf 6 = .ok (.istore 5, 2) := by decide +kernel
theorem dX10_heightOf_8 : decode cX10_heightOf 8 = .ok (.iload 5, 2) := by decide +kernel
theorem dX10_heightOf_10 : decode cX10_heightOf 10 = .ok (.aload_n 0, 1) := by decide +kernel
theorem dX10_heightOf_11 : decode cX10_heightOf 11 = .ok (.getfield 9, 3) := by decide +kernel
theorem dX10_heightOf_14 : decode cX10_heightOf 14 = .ok (.if_icmp .ge 77, 3) := by decide +kernel
theorem dX10_heightOf_17 : decode cX10_heightOf 17 = .ok (.iload_n 1, 1) := by decide +kernel
theorem dX10_heightOf_18 : decode cX10_heightOf 18 = .ok (.iload_n 2, 1) := by decide +kernel
theorem dX10_heightOf_19 : decode cX10_heightOf 19 = .ok (.if_icmp .eq 72, 3) := by decide +kernel
theorem dX10_heightOf_22 : decode cX10_heightOf 22 = .ok (.iload_n 3, 1) := by decide +kernel
theorem dX10_heightOf_23 : decode cX10_heightOf 23 = .ok (.aload_n 0, 1) := by decide +kernel
theorem dX10_heightOf_24 : decode cX10_heightOf 24 = .ok (.getfield 22, 3) := by decide +kernel
theorem dX10_heightOf_27 : decode cX10_heightOf 27 = .ok (.iload 5, 2) := by decide +kernel
theorem dX10_heightOf_29 : decode cX10_heightOf 29 = .ok (.iaload, 1) := by decide +kernel
theorem dX10_heightOf_30 : decode cX10_heightOf 30 = .ok (.if_icmp .ne 13, 3) := by decide +kernel
theorem dX10_heightOf_33 : decode cX10_heightOf 33 = .ok (.aload_n 0, 1) := by decide +kernel
theorem dX10_heightOf_34 : decode cX10_heightOf 34 = .ok (.getfield 18, 3) := by decide +kernel
theorem dX10_heightOf_37 : decode cX10_heightOf 37 = .ok (.iload 5, 2) := by decide +kernel
theorem dX10_heightOf_39 : decode cX10_heightOf 39 = .ok (.iaload, 1) := by decide +kernel
theorem dX10_heightOf_40 : decode cX10_heightOf 40 = .ok (.goto 4, 3) := by decide +kernel
theorem dX10_heightOf_43 : decode cX10_heightOf 43 = .ok (.iload_n 3, 1) := by decide +kernel
theorem dX10_heightOf_44 : decode cX10_heightOf 44 = .ok (.istore_n 3, 1) := by decide +kernel
theorem dX10_heightOf_45 : decode cX10_heightOf 45 = .ok (.iload 4, 2) := by decide +kernel
theorem dX10_heightOf_47 : decode cX10_heightOf 47 = .ok (.aload_n 0, 1) := by decide +kernel
theorem dX10_heightOf_48 : decode cX10_heightOf 48 = .ok (.getfield 22, 3) := by decide +kernel
theorem dX10_heightOf_51 : decode cX10_heightOf 51 = .ok (.iload 5, 2) := by decide +kernel
theorem dX10_heightOf_53 : decode cX10_heightOf 53 = .ok (.iaload, 1) := by decide +kernel
theorem dX10_heightOf_54 : decode cX10_heightOf 54 = .ok (.if_icmp .ne 13, 3) := by decide +kernel
theorem dX10_heightOf_57 : decode cX10_heightOf 57 = .ok (.aload_n 0, 1) := by decide +kernel
theorem dX10_heightOf_58 : decode cX10_heightOf 58 = .ok (.getfield 18, 3) := by decide +kernel
theorem dX10_heightOf_61 : decode cX10_heightOf 61 = .ok (.iload 5, 2) := by decide +kernel
theorem dX10_heightOf_63 : decode cX10_heightOf 63 = .ok (.iaload, 1) := by decide +kernel
theorem dX10_heightOf_64 : decode cX10_heightOf 64 = .ok (.goto 5, 3) := by decide +kernel
theorem dX10_heightOf_67 : decode cX10_heightOf 67 = .ok (.iload 4, 2) := by decide +kernel
theorem dX10_heightOf_69 : decode cX10_heightOf 69 = .ok (.istore 4, 2) := by decide +kernel
theorem dX10_heightOf_71 : decode cX10_heightOf 71 = .ok (.iload_n 3, 1) := by decide +kernel
theorem dX10_heightOf_72 : decode cX10_heightOf 72 = .ok (.iload 4, 2) := by decide +kernel
theorem dX10_heightOf_74 : decode cX10_heightOf 74 = .ok (.if_icmp .ne 11, 3) := by decide +kernel
theorem dX10_heightOf_77 : decode cX10_heightOf 77 = .ok (.aload_n 0, 1) := by decide +kernel
theorem dX10_heightOf_78 : decode cX10_heightOf 78 = .ok (.getfield 25, 3) := by decide +kernel
theorem dX10_heightOf_81 : decode cX10_heightOf 81 = .ok (.iload 5, 2) := by decide +kernel
theorem dX10_heightOf_83 : decode cX10_heightOf 83 = .ok (.iaload, 1) := by decide +kernel
theorem dX10_heightOf_84 : decode cX10_heightOf 84 = .ok (.ireturn, 1) := by decide +kernel
theorem dX10_heightOf_85 : decode cX10_heightOf 85 = .ok (.iinc 5 1, 3) := by decide +kernel
theorem dX10_heightOf_88 : decode cX10_heightOf 88 = .ok (.goto (-80), 3) := by decide +kernel
theorem dX10_heightOf_91 : decode cX10_heightOf 91 = .ok (.iconst 0, 1) := by decide +kernel
theorem dX10_heightOf_92 : decode cX10_heightOf 92 = .ok (.ireturn, 1) := by decide +kernel
theorem dX10_partBelow_0 : decode cX10_partBelow 0 = .ok (.iconst 0, 1) := by decide +kernel
theorem dX10_partBelow_1 : decode cX10_partBelow 1 = .ok (.istore_n 3, 1) := by decide +kernel
theorem dX10_partBelow_2 : decode cX10_partBelow 2 = .ok (.iload_n 3, 1) := by decide +kernel
theorem dX10_partBelow_3 : decode cX10_partBelow 3 = .ok (.aload_n 2, 1) := by decide +kernel
theorem dX10_partBelow_4 : decode cX10_partBelow 4 = .ok (.getfield 72, 3) := by decide +kernel
theorem dX10_partBelow_7 : decode cX10_partBelow 7 = .ok (.if_icmp .ge 16, 3) := by decide +kernel
theorem dX10_partBelow_10 : decode cX10_partBelow 10 = .ok (.aload_n 2, 1) := by decide +kernel
theorem dX10_partBelow_11 : decode cX10_partBelow 11 = .ok (.getfield 75, 3) := by decide +kernel
theorem dX10_partBelow_14 : decode cX10_partBelow 14 = .ok (.iload_n 3, 1) := by decide +kernel
theorem dX10_partBelow_15 : decode cX10_partBelow 15 = .ok (.iload_n 3, 1) := by decide +kernel
theorem dX10_partBelow_16 : decode cX10_partBelow 16 = .ok (.iastore, 1) := by decide +kernel
theorem dX10_partBelow_17 : decode cX10_partBelow 17 = .ok (.iinc 3 1, 3) := by decide +kernel
theorem dX10_partBelow_20 : decode cX10_partBelow 20 = .ok (.goto (-18), 3) := by decide +kernel
theorem dX10_partBelow_23 : decode cX10_partBelow 23 = .ok (.iconst 0, 1) := by decide +kernel
theorem dX10_partBelow_24 : decode cX10_partBelow 24 = .ok (.istore_n 3, 1) := by decide +kernel
theorem dX10_partBelow_25 : decode cX10_partBelow 25 = .ok (.iload_n 3, 1) := by decide +kernel
theorem dX10_partBelow_26 : decode cX10_partBelow 26 = .ok (.aload_n 0, 1) := by decide +kernel
theorem dX10_partBelow_27 : decode cX10_partBelow 27 = .ok (.getfield 9, 3) := by decide +kernel
theorem dX10_partBelow_30 : decode cX10_partBelow 30 = .ok (.if_icmp .ge 66, 3) := by decide +kernel
theorem dX10_partBelow_33 : decode cX10_partBelow 33 = .ok (.aload_n 0, 1) := by decide +kernel
theorem dX10_partBelow_34 : decode cX10_partBelow 34 = .ok (.getfield 25, 3) := by decide +kernel
theorem dX10_partBelow_37 : decode cX10_partBelow 37 = .ok (.iload_n 3, 1) := by decide +kernel
theorem dX10_partBelow_38 : decode cX10_partBelow 38 = .ok (.iaload, 1) := by decide +kernel
theorem dX10_partBelow_39 : decode cX10_partBelow 39 = .ok (.iload_n 1, 1) := by decide +kernel
theorem dX10_partBelow_40 : decode cX10_partBelow 40 = .ok (.if_icmp .gt 56, 3) := by decide +kernel
theorem dX10_partBelow_43 : decode cX10_partBelow 43 = .ok (.iconst 0, 1) := by decide +kernel
theorem dX10_partBelow_44 : decode cX10_partBelow 44 = .ok (.istore 4, 2) := by decide +kernel
theorem dX10_partBelow_46 : decode cX10_partBelow 46 = .ok (.iload 4, 2) := by decide +kernel
theorem dX10_partBelow_48 : decode cX10_partBelow 48 = .ok (.aload_n 2, 1) := by decide +kernel
theorem dX10_partBelow_49 : decode cX10_partBelow 49 = .ok (.getfield 72, 3) := by decide +kernel
theorem dX10_partBelow_52 : decode cX10_partBelow 52 = .ok (.if_icmp .ge 38, 3) := by decide +kernel
theorem dX10_partBelow_55 : decode cX10_partBelow 55 = .ok (.aload_n 2, 1) := by decide +kernel
theorem dX10_partBelow_56 : decode cX10_partBelow 56 = .ok (.getfield 75, 3) := by decide +kernel
theorem dX10_partBelow_59 : decode cX10_partBelow 59 = .ok (.iload 4, 2) := by decide +kernel
theorem dX10_partBelow_61 : decode cX10_partBelow 61 = .ok (.iaload, 1) := by decide +kernel
theorem dX10_partBelow_62 : decode cX10_partBelow 62 = .ok (.aload_n 0, 1) := by decide +kernel
theorem dX10_partBelow_63 : decode cX10_partBelow 63 = .ok (.getfield 22, 3) := by decide +kernel
theorem dX10_partBelow_66 : decode cX10_partBelow 66 = .ok (.iload_n 3, 1) := by decide +kernel
theorem dX10_partBelow_67 : decode cX10_partBelow 67 = .ok (.iaload, 1) := by decide +kernel
theorem dX10_partBelow_68 : decode cX10_partBelow 68 = .ok (.if_icmp .ne 16, 3) := by decide +kernel
theorem dX10_partBelow_71 : decode cX10_partBelow 71 = .ok (.aload_n 2, 1) := by decide +kernel
theorem dX10_partBelow_72 : decode cX10_partBelow 72 = .ok (.getfield 75, 3) := by decide +kernel
theorem dX10_partBelow_75 : decode cX10_partBelow 75 = .ok (.iload 4, 2) := by decide +kernel
theorem dX10_partBelow_77 : decode cX10_partBelow 77 = .ok (.aload_n 0, 1) := by decide +kernel
theorem dX10_partBelow_78 : decode cX10_partBelow 78 = .ok (.getfield 18, 3) := by decide +kernel
theorem dX10_partBelow_81 : decode cX10_partBelow 81 = .ok (.iload_n 3, 1) := by decide +kernel
theorem dX10_partBelow_82 : decode cX10_partBelow 82 = .ok (.iaload, 1) := by decide +kernel
theorem dX10_partBelow_83 : decode cX10_partBelow 83 = .ok (.iastore, 1) := by decide +kernel
theorem dX10_partBelow_84 : decode cX10_partBelow 84 = .ok (.iinc 4 1, 3) := by decide +kernel
theorem dX10_partBelow_87 : decode cX10_partBelow 87 = .ok (.goto (-41), 3) := by decide +kernel
theorem dX10_partBelow_90 : decode cX10_partBelow 90 = .ok (.iinc 3 1, 3) := by decide +kernel
theorem dX10_partBelow_93 : decode cX10_partBelow 93 = .ok (.goto (-68), 3) := by decide +kernel
theorem dX10_partBelow_96 : decode cX10_partBelow 96 = .ok (.aload_n 2, 1) := by decide +kernel
theorem dX10_partBelow_97 : decode cX10_partBelow 97 = .ok (.invokevirtual 78, 3) := by decide +kernel
theorem dX10_partBelow_100 : decode cX10_partBelow 100 = .ok (.return_, 1) := by decide +kernel
theorem dX11_init_0 : decode cX11_init 0 = .ok (.aload_n 0, 1) := by decide +kernel
theorem dX11_init_1 : decode cX11_init 1 = .ok (.invokespecial 1, 3) := by decide +kernel
theorem dX11_init_4 : decode cX11_init 4 = .ok (.aload_n 0, 1) := by decide +kernel
theorem dX11_init_5 : decode cX11_init 5 = .ok (.new 7, 3) := by decide +kernel
theorem dX11_init_8 : decode cX11_init 8 = .ok (.dup, 1) := by decide +kernel
theorem dX11_init_9 : decode cX11_init 9 = .ok (.invokespecial 9, 3) := by decide +kernel
theorem dX11_init_12 : decode cX11_init 12 = .ok (.putfield 10, 3) := by decide +kernel
theorem dX11_init_15 : decode cX11_init 15 = .ok (.aload_n 0, 1) := by decide +kernel
theorem dX11_init_16 : decode cX11_init 16 = .ok (.new 16, 3) := by decide +kernel
theorem dX11_init_19 : decode cX11_init 19 = .ok (.dup, 1) := by decide +kernel
theorem dX11_init_20 : decode cX11_init 20 = .ok (.invokespecial 18, 3) := by decide +kernel
theorem dX11_init_23 : decode cX11_init 23 = .ok (.putfield 19, 3) := by decide +kernel
theorem dX11_init_26 : decode cX11_init 26 = .ok (.aload_n 0, 1) := by decide +kernel
theorem dX11_init_27 : decode cX11_init 27 = .ok (.new 23, 3) := by decide +kernel
theorem dX11_init_30 : decode cX11_init 30 = .ok (.dup, 1) := by decide +kernel
theorem dX11_init_31 : decode cX11_init 31 = .ok (.invokespecial 25, 3) := by decide +kernel
theorem dX11_init_34 : decode cX11_init 34 = .ok (.putfield 26, 3) := by decide +kernel
theorem dX11_init_37 : decode cX11_init 37 = .ok (.aload_n 0, 1) := by decide +kernel
theorem dX11_init_38 : decode cX11_init 38 = .ok (.new 30, 3) := by decide +kernel
theorem dX11_init_41 : decode cX11_init 41 = .ok (.dup, 1) := by decide +kernel
theorem dX11_init_42 : decode cX11_init 42 = .ok (.invokespecial 32, 3) := by decide +kernel
theorem dX11_init_45 : decode cX11_init 45 = .ok (.putfield 33, 3) := by decide +kernel
theorem dX11_init_48 : decode cX11_init 48 = .ok (.aload_n 0, 1) := by decide +kernel
theorem dX11_init_49 : decode cX11_init 49 = .ok (.iconst 4, 1) := by decide +kernel
theorem dX11_init_50 : decode cX11_init 50 = .ok (.anewarray 37, 3) := by decide +kernel
theorem dX11_init_53 : decode cX11_init 53 = .ok (.putfield 39, 3) := by decide +kernel
theorem dX11_init_56 : decode cX11_init 56 = .ok (.aload_n 0, 1) := by decide +kernel
theorem dX11_init_57 : decode cX11_init 57 = .ok (.new 37, 3) := by decide +kernel
theorem dX11_init_60 : decode cX11_init 60 = .ok (.dup, 1) := by decide +kernel
theorem dX11_init_61 : decode cX11_init 61 = .ok (.invokespecial 43, 3) := by decide +kernel
theorem dX11_init_64 : decode cX11_init 64 = .ok (.putfield 44, 3) := by decide +kernel
theorem dX11_init_67 : decode cX11_init 67 = .ok (.aload_n 0, 1) := by decide +kernel
theorem dX11_init_68 : decode cX11_init 68 = .ok (.new 48, 3) := by decide +kernel
theorem dX11_init_71 : decode cX11_init 71 = .ok (.dup, 1) := by decide +kernel
theorem dX11_init_72 : decode cX11_init 72 = .ok (.invokespecial 50, 3) := by decide +kernel
theorem dX11_init_75 : decode cX11_init 75 = .ok (.putfield 51, 3) := by decide +kernel
theorem dX11_init_78 : decode cX11_init 78 = .ok (.aload_n 0, 1) := by decide +kernel
theorem dX11_init_79 : decode cX11_init 79 = .ok (.new 55, 3) := by decide +kernel
theorem dX11_init_82 : decode cX11_init 82 = .ok (.dup, 1) := by decide +kernel
theorem dX11_init_83 : decode cX11_init 83 = .ok (.invokespecial 57, 3) := by decide +kernel
theorem dX11_init_86 : decode cX11_init 86 = .ok (.putfield 58, 3) := by decide +kernel
theorem dX11_init_89 : decode cX11_init 89 = .ok (.aload_n 0, 1) := by decide +kernel
theorem dX11_init_90 : decode cX11_init 90 = .ok (.new 62, 3) := by decide +kernel
theorem dX11_init_93 : decode cX11_init 93 = .ok (.dup, 1) := by decide +kernel
theorem dX11_init_94 : decode cX11_init 94 = .ok (.invokespecial 64, 3) := by decide +kernel
theorem dX11_init_97 : decode cX11_init 97 = .ok (.putfield 65, 3) := by decide +kernel
theorem dX11_init_100 : decode cX11_init 100 = .ok (.aload_n 0, 1) := by decide +kernel
theorem dX11_init_101 : decode cX11_init 101 = .ok (.new 69, 3) := by decide +kernel
theorem dX11_init_104 : decode cX11_init 104 = .ok (.dup, 1) := by decide +kernel
theorem dX11_init_105 : decode cX11_init 105 = .ok (.invokespecial 71, 3) := by decide +kernel
theorem dX11_init_108 : decode cX11_init 108 = .ok (.putfield 72, 3) := by decide +kernel
theorem dX11_init_111 : decode cX11_init 111 = .ok (.aload_n 0, 1) := by decide +kernel
theorem dX11_init_112 : decode cX11_init 112 = .ok (.new 76, 3) := by decide +kernel
theorem dX11_init_115 : decode cX11_init 115 = .ok (.dup, 1) := by decide +kernel
theorem dX11_init_116 : decode cX11_init 116 = .ok (.invokespecial 78, 3) := by decide +kernel
theorem dX11_init_119 : decode cX11_init 119 = .ok (.putfield 79, 3) := by decide +kernel
theorem dX11_init_122 : decode cX11_init 122 = .ok (.aload_n 0, 1) := by decide +kernel
theorem dX11_init_123 : decode cX11_init 123 = .ok (.iconst 0, 1) := by decide +kernel
theorem dX11_init_124 : decode cX11_init 124 = .ok (.putfield 83, 3) := by decide +kernel
theorem dX11_init_127 : decode cX11_init 127 = .ok (.aload_n 0, 1) := by decide +kernel
theorem dX11_init_128 : decode cX11_init 128 = .ok (.getfield 10, 3) := by decide +kernel
theorem dX11_init_131 : decode cX11_init 131 = .ok (.iconst 1, 1) := by decide +kernel
theorem dX11_init_132 : decode cX11_init 132 = .ok (.invokevirtual 87, 3) := by decide +kernel
theorem dX11_init_135 : decode cX11_init 135 = .ok (.iconst 0, 1) := by decide +kernel
theorem dX11_init_136 : decode cX11_init 136 = .ok (.istore_n 1, 1) := by decide +kernel
theorem dX11_init_137 : decode cX11_init 137 = .ok (.iload_n 1, 1) := by decide +kernel
theorem dX11_init_138 : decode cX11_init 138 = .ok (.iconst 4, 1) := by decide +kernel
theorem dX11_init_139 : decode cX11_init 139 = .ok (.if_icmp .ge 22, 3) := by decide +kernel
theorem dX11_init_142 : decode cX11_init 142 = .ok (.aload_n 0, 1) := by decide +kernel
theorem dX11_init_143 : decode cX11_init 143 = .ok (.getfield 39, 3) := by decide +kernel
theorem dX11_init_146 : decode cX11_init 146 = .ok (.iload_n 1, 1) := by decide +kernel
theorem dX11_init_147 : decode cX11_init 147 = .ok (.new 37, 3) := by decide +kernel
theorem dX11_init_150 : decode cX11_init 150 = .ok (.dup, 1) := by decide +kernel
theorem dX11_init_151 : decode cX11_init 151 = .ok (.invokespecial 43, 3) := by decide +kernel
theorem dX11_init_154 : decode cX11_init 154 = .ok (.aastore, 1) := by decide +kernel
theorem dX11_init_155 : decode cX11_init 155 = .ok (.iinc 1 1, 3) := by decide +kernel
theorem dX11_init_158 : decode cX11_init 158 = .ok (.goto (-21), 3) := by decide +kernel
theorem dX11_init_161 : decode cX11_init 161 = .ok (.return_, 1) := by decide +kernel
theorem dX11_things_0 : decode cX11_things 0 = .ok (.iload_n 1, 1) := by decide +kernel
theorem dX11_things_1 : decode cX11_things 1 = .ok (.iconst 1, 1) := by decide +kernel
theorem dX11_things_2 : decode cX11_things 2 = .ok (.if_icmp .lt 9, 3) := by decide +kernel
theorem dX11_things_5 : decode cX11_things 5 = .ok (.iload_n 1, 1) := by decide +kernel
theorem dX11_things_6 : decode cX11_things 6 = .ok (.bipush 12, 2) := by decide +kernel
theorem dX11_things_8 : decode cX11_things 8 = .ok (.if_icmp .le 9, 3) := by decide +kernel
theorem dX11_things_11 : decode cX11_things 11 = .ok (.aload_n 0, 1) := by decide +kernel
theorem dX11_things_12 : decode cX11_things 12 = .ok (.iconst 1, 1) := by decide +kernel
theorem dX11_things_13 : decode cX11_things 13 = .ok (.invokevirtual 91, 3) := by decide +kernel
theorem dX11_things_16 : decode cX11_things 16 = .ok (.ireturn, 1) := by decide +kernel
theorem dX11_things_17 : decode cX11_things 17 = .ok (.aload_n 0, 1) := by decide +kernel
theorem dX11_things_18 : decode cX11_things 18 = .ok (.invokevirtual 95, 3) := by decide +kernel
theorem dX11_things_21 : decode cX11_things 21 = .ok (.aload_n 0, 1) := by decide +kernel
theorem dX11_things_22 : decode cX11_things 22 = .ok (.getfield 10, 3) := by decide +kernel
theorem dX11_things_25 : decode cX11_things 25 = .ok (.iload_n 1, 1) := by decide +kernel
theorem dX11_things_26 : decode cX11_things 26 = .ok (.invokevirtual 87, 3) := by decide +kernel
theorem dX11_things_29 : decode cX11_things 29 = .ok (.aload_n 0, 1) := by decide +kernel
theorem dX11_things_30 : decode cX11_things 30 = .ok (.getfield 33, 3) := by decide +kernel
theorem dX11_things_33 : decode cX11_things 33 = .ok (.invokevirtual 98, 3) := by decide +kernel
theorem dX11_things_36 : decode cX11_things 36 = .ok (.iconst 1, 1) := by decide +kernel
theorem dX11_things_37 : decode cX11_things 37 = .ok (.ireturn, 1) := by decide +kernel
theorem dX11_way_0 : decode cX11_way 0 = .ok (.aload_n 0, 1) := by decide +kernel
theorem dX11_way_1 : decode cX11_way 1 = .ok (.iload_n 1, 1) := by decide +kernel
theorem dX11_way_2 : decode cX11_way 2 = .ok (.iload_n 2, 1) := by decide +kernel
theorem dX11_way_3 : decode cX11_way 3 = .ok (.invokevirtual 101, 3) := by decide +kernel
theorem dX11_way_6 : decode cX11_way 6 = .ok (.ifCond .eq 14, 3) := by decide +kernel
theorem dX11_way_9 : decode cX11_way 9 = .ok (.iload_n 3, 1) := by decide +kernel
theorem dX11_way_10 : decode cX11_way 10 = .ok (.ifCond .lt 10, 3) := by decide +kernel
theorem dX11_way_13 : decode cX11_way 13 = .ok (.iload_n 3, 1) := by decide +kernel
theorem dX11_way_14 : decode cX11_way 14 = .ok (.sipush 10000, 3) := by decide +kernel
theorem dX11_way_17 : decode cX11_way 17 = .ok (.if_icmp .le 9, 3) := by decide +kernel
theorem dX11_way_20 : decode cX11_way 20 = .ok (.aload_n 0, 1) := by decide +kernel
theorem dX11_way_21 : decode cX11_way 21 = .ok (.iconst 1, 1) := by decide +kernel
theorem dX11_way_22 : decode cX11_way 22 = .ok (.invokevirtual 105, 3) := by decide +kernel
theorem dX11_way_25 : decode cX11_way 25 = .ok (.ireturn, 1) := by decide +kernel
theorem dX11_way_26 : decode cX11_way 26 = .ok (.aload_n 0, 1) := by decide +kernel
theorem dX11_way_27 : decode cX11_way 27 = .ok (.invokevirtual 95, 3) := by decide +kernel
theorem dX11_way_30 : decode cX11_way 30 = .ok (.aload_n 0, 1) := by decide +kernel
theorem dX11_way_31 : decode cX11_way 31 = .ok (.getfield 10, 3) := by decide +kernel
theorem dX11_way_34 : decode cX11_way 34 = .ok (.iload_n 1, 1) := by decide +kernel
theorem dX11_way_35 : decode cX11_way 35 = .ok (.iload_n 2, 1) := by decide +kernel
theorem dX11_way_36 : decode cX11_way 36 = .ok (.invokevirtual 109, 3) := by decide +kernel
theorem dX11_way_39 : decode cX11_way 39 = .ok (.istore 4, 2) := by decide +kernel
theorem dX11_way_41 : decode cX11_way 41 = .ok (.aload_n 0, 1) := by decide +kernel
theorem dX11_way_42 : decode cX11_way 42 = .ok (.getfield 10, 3) := by decide +kernel
theorem dX11_way_45 : decode cX11_way 45 = .ok (.iload_n 1, 1) := by decide +kernel
theorem dX11_way_46 : decode cX11_way 46 = .ok (.iload_n 2, 1) := by decide +kernel
theorem dX11_way_47 : decode cX11_way 47 = .ok (.iload_n 3, 1) := by decide +kernel
theorem dX11_way_48 : decode cX11_way 48 = .ok (.invokevirtual 113, 3) := by decide +kernel
theorem dX11_way_51 : decode cX11_way 51 = .ok (.iload 4, 2) := by decide +kernel
theorem dX11_way_53 : decode cX11_way 53 = .ok (.ireturn, 1) := by decide +kernel
theorem dX11_sheet_0 : decode cX11_sheet 0 = .ok (.iload_n 1, 1) := by decide +kernel
theorem dX11_sheet_1 : decode cX11_sheet 1 = .ok (.ifCond .lt 8, 3) := by decide +kernel
theorem dX11_sheet_4 : decode cX11_sheet 4 = .ok (.iload_n 1, 1) := by decide +kernel
theorem dX11_sheet_5 : decode cX11_sheet 5 = .ok (.iconst 4, 1) := by decide +kernel
theorem dX11_sheet_6 : decode cX11_sheet 6 = .ok (.if_icmp .le 9, 3) := by decide +kernel
theorem dX11_sheet_9 : decode cX11_sheet 9 = .ok (.aload_n 0, 1) := by decide +kernel
theorem dX11_sheet_10 : decode cX11_sheet 10 = .ok (.iconst 1, 1) := by decide +kernel
theorem dX11_sheet_11 : decode cX11_sheet 11 = .ok (.invokevirtual 105, 3) := by decide +kernel
theorem dX11_sheet_14 : decode cX11_sheet 14 = .ok (.ireturn, 1) := by decide +kernel
theorem dX11_sheet_15 : decode cX11_sheet 15 = .ok (.iload_n 1, 1) := by decide +kernel
theorem dX11_sheet_16 : decode cX11_sheet 16 = .ok (.iconst 4, 1) := by decide +kernel
theorem dX11_sheet_17 : decode cX11_sheet 17 = .ok (.if_icmp .eq 15, 3) := by decide +kernel
theorem dX11_sheet_20 : decode cX11_sheet 20 = .ok (.iload_n 2, 1) := by decide +kernel
theorem dX11_sheet_21 : decode cX11_sheet 21 = .ok (.bipush 8, 2) := by decide +kernel
theorem dX11_sheet_23 : decode cX11_sheet 23 = .ok (.if_icmp .le 9, 3) := by decide +kernel
theorem dX11_sheet_26 : decode cX11_sheet 26 = .ok (.aload_n 0, 1) := by decide +kernel
theorem dX11_sheet_27 : decode cX11_sheet 27 = .ok (.iconst 1, 1) := by decide +kernel
theorem dX11_sheet_28 : decode cX11_sheet 28 = .ok (.invokevirtual 105, 3) := by decide +kernel
theorem dX11_sheet_31 : decode cX11_sheet 31 = .ok (.ireturn, 1) := by decide +kernel
theorem dX11_sheet_32 : decode cX11_sheet 32 = .ok (.iload_n 1, 1) := by decide +kernel
theorem dX11_sheet_33 : decode cX11_sheet 33 = .ok (.iconst 4, 1) := by decide +kernel
theorem dX11_sheet_34 : decode cX11_sheet 34 = .ok (.if_icmp .eq 13, 3) := by decide +kernel
theorem dX11_sheet_37 : decode cX11_sheet 37 = .ok (.iload_n 2, 1) := by decide +kernel
theorem dX11_sheet_38 : decode cX11_sheet 38 = .ok (.ifCond .ge 9, 3) := by decide +kernel
theorem dX11_sheet_41 : decode cX11_sheet 41 = .ok (.aload_n 0, 1) := by decide +kernel
theorem dX11_sheet_42 : decode cX11_sheet 42 = .ok (.iconst 4, 1) := by decide +kernel
theorem dX11_sheet_43 : decode cX11_sheet 43 = .ok (.invokevirtual 105, 3) := by decide +kernel
theorem dX11_sheet_46 : decode cX11_sheet 46 = .ok (.ireturn, 1) := by decide +kernel
theorem dX11_sheet_47 : decode cX11_sheet 47 = .ok (.aload_n 0, 1) := by decide +kernel
theorem dX11_sheet_48 : decode cX11_sheet 48 = .ok (.iconst 0, 1) := by decide +kernel
theorem dX11_sheet_49 : decode cX11_sheet 49 = .ok (.putfield 83, 3) := by decide +kernel
theorem dX11_sheet_52 : decode cX11_sheet 52 = .ok (.aload_n 0, 1) := by decide +kernel
theorem dX11_sheet_53 : decode cX11_sheet 53 = .ok (.getfield 26, 3) := by decide +kernel
theorem dX11_sheet_56 : decode cX11_sheet 56 = .ok (.iload_n 1, 1) := by decide +kernel
theorem dX11_sheet_57 : decode cX11_sheet 57 = .ok (.iload_n 1, 1) := by decide +kernel
theorem dX11_sheet_58 : decode cX11_sheet 58 = .ok (.iconst 4, 1) := by decide +kernel
theorem dX11_sheet_59 : decode cX11_sheet 59 = .ok (.if_icmp .ne 7, 3) := by decide +kernel
theorem dX11_sheet_62 : decode cX11_sheet 62 = .ok (.iconst 0, 1) := by decide +kernel
theorem dX11_sheet_63 : decode cX11_sheet 63 = .ok (.goto 4, 3) := by decide +kernel
theorem dX11_sheet_66 : decode cX11_sheet 66 = .ok (.iload_n 2, 1) := by decide +kernel
theorem dX11_sheet_67 : decode cX11_sheet 67 = .ok (.invokevirtual 117, 3) := by decide +kernel
theorem dX11_sheet_70 : decode cX11_sheet 70 = .ok (.aload_n 0, 1) := by decide +kernel
theorem dX11_sheet_71 : decode cX11_sheet 71 = .ok (.getfield 26, 3) := by decide +kernel
theorem dX11_sheet_74 : decode cX11_sheet 74 = .ok (.getfield 121, 3) := by decide +kernel
theorem dX11_sheet_77 : decode cX11_sheet 77 = .ok (.ireturn, 1) := by decide +kernel
theorem dX11_entry_0 : decode cX11_entry 0 = .ok (.aload_n 0, 1) := by decide +kernel
theorem dX11_entry_1 : decode cX11_entry 1 = .ok (.getfield 26, 3) := by decide +kernel
theorem dX11_entry_4 : decode cX11_entry 4 = .ok (.getfield 124, 3) := by decide +kernel
theorem dX11_entry_7 : decode cX11_entry 7 = .ok (.iconst (-1), 1) := by decide +kernel
theorem dX11_entry_8 : decode cX11_entry 8 = .ok (.if_icmp .eq 14, 3) := by decide +kernel
theorem dX11_entry_11 : decode cX11_entry 11 = .ok (.aload_n 0, 1) := by decide +kernel
theorem dX11_entry_12 : decode cX11_entry 12 = .ok (.getfield 26, 3) := by decide +kernel
theorem dX11_entry_15 : decode cX11_entry 15 = .ok (.getfield 124, 3) := by decide +kernel
theorem dX11_entry_18 : decode cX11_entry 18 = .ok (.iconst 4, 1) := by decide +kernel
theorem dX11_entry_19 : decode cX11_entry 19 = .ok (.if_icmp .ne 9, 3) := by decide +kernel
theorem dX11_entry_22 : decode cX11_entry 22 = .ok (.aload_n 0, 1) := by decide +kernel
theorem dX11_entry_23 : decode cX11_entry 23 = .ok (.iconst 2, 1) := by decide +kernel
theorem dX11_entry_24 : decode cX11_entry 24 = .ok (.invokevirtual 91, 3) := by decide +kernel
theorem dX11_entry_27 : decode cX11_entry 27 = .ok (.ireturn, 1) := by decide +kernel
theorem dX11_entry_28 : decode cX11_entry 28 = .ok (.iload_n 1, 1) := by decide +kernel
theorem dX11_entry_29 : decode cX11_entry 29 = .ok (.ifCond .lt 14, 3) := by decide +kernel
theorem dX11_entry_32 : decode cX11_entry 32 = .ok (.iload_n 1, 1) := by decide +kernel
theorem dX11_entry_33 : decode cX11_entry 33 = .ok (.aload_n 0, 1) := by decide +kernel
theorem dX11_entry_34 : decode cX11_entry 34 = .ok (.getfield 26, 3) := by decide +kernel
theorem dX11_entry_37 : decode cX11_entry 37 = .ok (.getfield 121, 3) := by decide +kernel
theorem dX11_entry_40 : decode cX11_entry 40 = .ok (.if_icmp .lt 9, 3) := by decide +kernel
theorem dX11_entry_43 : decode cX11_entry 43 = .ok (.aload_n 0, 1) := by decide +kernel
theorem dX11_entry_44 : decode cX11_entry 44 = .ok (.iconst 1, 1) := by decide +kernel
theorem dX11_entry_45 : decode cX11_entry 45 = .ok (.invokevirtual 91, 3) := by decide +kernel
theorem dX11_entry_48 : decode cX11_entry 48 = .ok (.ireturn, 1) := by decide +kernel
theorem dX11_entry_49 : decode cX11_entry 49 = .ok (.aload_n 0, 1) := by decide +kernel
theorem dX11_entry_50 : decode cX11_entry 50 = .ok (.iconst 0, 1) := by decide +kernel
theorem dX11_entry_51 : decode cX11_entry 51 = .ok (.putfield 83, 3) := by decide +kernel
theorem dX11_entry_54 : decode cX11_entry 54 = .ok (.aload_n 0, 1) := by decide +kernel
theorem dX11_entry_55 : decode cX11_entry 55 = .ok (.getfield 26, 3) := by decide +kernel
theorem dX11_entry_58 : decode cX11_entry 58 = .ok (.iload_n 1, 1) := by decide +kernel
theorem dX11_entry_59 : decode cX11_entry 59 = .ok (.lload_n 2, 1) := by decide +kernel
theorem dX11_entry_60 : decode cX11_entry 60 = .ok (.invokevirtual 127, 3) := by decide +kernel
theorem dX11_entry_63 : decode cX11_entry 63 = .ok (.iconst 1, 1) := by decide +kernel
theorem dX11_entry_64 : decode cX11_entry 64 = .ok (.ireturn, 1) := by decide +kernel
theorem dX11_lay_0 : decode cX11_lay 0 = .ok (.aload_n 0, 1) := by decide +kernel
theorem dX11_lay_1 : decode cX11_lay 1 = .ok (.iload_n 1, 1) := by decide +kernel
theorem dX11_lay_2 : decode cX11_lay 2 = .ok (.invokevirtual 131, 3) := by decide +kernel
theorem dX11_lay_5 : decode cX11_lay 5 = .ok (.ifCond .eq 13, 3) := by decide +kernel
theorem dX11_lay_8 : decode cX11_lay 8 = .ok (.aload_n 0, 1) := by decide +kernel
theorem dX11_lay_9 : decode cX11_lay 9 = .ok (.getfield 26, 3) := by decide +kernel
theorem dX11_lay_12 : decode cX11_lay 12 = .ok (.invokevirtual 134, 3) := by decide +kernel
theorem dX11_lay_15 : decode cX11_lay 15 = .ok (.ifCond .ne 9, 3) := by decide +kernel
theorem dX11_lay_18 : decode cX11_lay 18 = .ok (.aload_n 0, 1) := by decide +kernel
theorem dX11_lay_19 : decode cX11_lay 19 = .ok (.iconst 1, 1) := by decide +kernel
theorem dX11_lay_20 : decode cX11_lay 20 = .ok (.invokevirtual 91, 3) := by decide +kernel
theorem dX11_lay_23 : decode cX11_lay 23 = .ok (.ireturn, 1) := by decide +kernel
theorem dX11_lay_24 : decode cX11_lay 24 = .ok (.aload_n 0, 1) := by decide +kernel
theorem dX11_lay_25 : decode cX11_lay 25 = .ok (.getfield 26, 3) := by decide +kernel
theorem dX11_lay_28 : decode cX11_lay 28 = .ok (.getfield 124, 3) := by decide +kernel
theorem dX11_lay_31 : decode cX11_lay 31 = .ok (.iconst (-1), 1) := by decide +kernel
theorem dX11_lay_32 : decode cX11_lay 32 = .ok (.if_icmp .ne 9, 3) := by decide +kernel
theorem dX11_lay_35 : decode cX11_lay 35 = .ok (.aload_n 0, 1) := by decide +kernel
theorem dX11_lay_36 : decode cX11_lay 36 = .ok (.iconst 2, 1) := by decide +kernel
theorem dX11_lay_37 : decode cX11_lay 37 = .ok (.invokevirtual 91, 3) := by decide +kernel
theorem dX11_lay_40 : decode cX11_lay 40 = .ok (.ireturn, 1) := by decide +kernel
theorem dX11_lay_41 : decode cX11_lay 41 = .ok (.aload_n 0, 1) := by decide +kernel
theorem dX11_lay_42 : decode cX11_lay 42 = .ok (.invokevirtual 95, 3) := by decide +kernel
theorem dX11_lay_45 : decode cX11_lay 45 = .ok (.iconst 0, 1) := by decide +kernel
theorem dX11_lay_46 : decode cX11_lay 46 = .ok (.istore_n 2, 1) := by decide +kernel
theorem dX11_lay_47 : decode cX11_lay 47 = .ok (.iload_n 2, 1) := by decide +kernel
theorem dX11_lay_48 : decode cX11_lay 48 = .ok (.iconst 4, 1) := by decide +kernel
theorem dX11_lay_49 : decode cX11_lay 49 = .ok (.if_icmp .ge 32, 3) := by decide +kernel
theorem dX11_lay_52 : decode cX11_lay 52 = .ok (.aload_n 0, 1) := by decide +kernel
theorem dX11_lay_53 : decode cX11_lay 53 = .ok (.getfield 10, 3) := by decide +kernel
theorem dX11_lay_56 : decode cX11_lay 56 = .ok (.getfield 138, 3) := by decide +kernel
theorem dX11_lay_59 : decode cX11_lay 59 = .ok (.iload_n 1, 1) := by decide +kernel
theorem dX11_lay_60 : decode cX11_lay 60 = .ok (.iconst 4, 1) := by decide +kernel
theorem dX11_lay_61 : decode cX11_lay 61 = .ok (.imul, 1) := by decide +kernel
theorem dX11_lay_62 : decode cX11_lay 62 = .ok (.iload_n 2, 1) := by decide +kernel
theorem dX11_lay_63 : decode cX11_lay 63 = .ok (.iadd, 1) := by decide +kernel
theorem dX11_lay_64 : decode cX11_lay 64 = .ok (.aload_n 0, 1) := by decide +kernel
theorem dX11_lay_65 : decode cX11_lay 65 = .ok (.getfield 26, 3) := by decide +kernel
theorem dX11_lay_68 : decode cX11_lay 68 = .ok (.getfield 142, 3) := by decide +kernel
theorem dX11_lay_71 : decode cX11_lay 71 = .ok (.iload_n 2, 1) := by decide +kernel
theorem dX11_lay_72 : decode cX11_lay 72 = .ok (.laload, 1) := by decide +kernel
theorem dX11_lay_73 : decode cX11_lay 73 = .ok (.l2i, 1) := by decide +kernel
theorem dX11_lay_74 : decode cX11_lay 74 = .ok (.iastore, 1) := by decide +kernel
theorem dX11_lay_75 : decode cX11_lay 75 = .ok (.iinc 2 1, 3) := by decide +kernel
theorem dX11_lay_78 : decode cX11_lay 78 = .ok (.goto (-31), 3) := by decide +kernel
theorem dX11_lay_81 : decode cX11_lay 81 = .ok (.aload_n 0, 1) := by decide +kernel
theorem dX11_lay_82 : decode cX11_lay 82 = .ok (.getfield 26, 3) := by decide +kernel
theorem dX11_lay_85 : decode cX11_lay 85 = .ok (.invokevirtual 146, 3) := by decide +kernel
theorem dX11_lay_88 : decode cX11_lay 88 = .ok (.iconst 1, 1) := by decide +kernel
theorem dX11_lay_89 : decode cX11_lay 89 = .ok (.ireturn, 1) := by decide +kernel
theorem dX11_measure_0 : decode cX11_measure 0 = .ok (.iload_n 1, 1) := by decide +kernel
theorem dX11_measure_1 : decode cX11_measure 1 = .ok (.ifCond .lt 8, 3) := by decide +kernel
theorem dX11_measure_4 : decode cX11_measure 4 = .ok (.iload_n 1, 1) := by decide +kernel
theorem dX11_measure_5 : decode cX11_measure 5 = .ok (.iconst 2, 1) := by decide +kernel
theorem dX11_measure_6 : decode cX11_measure 6 = .ok (.if_icmp .le 9, 3) := by decide +kernel
theorem dX11_measure_9 : decode cX11_measure 9 = .ok (.aload_n 0, 1) := by decide +kernel
theorem dX11_measure_10 : decode cX11_measure 10 = .ok (.iconst 1, 1) := by decide +kernel
theorem dX11_measure_11 : decode cX11_measure 11 = .ok (.invokevirtual 105, 3) := by decide +kernel
theorem dX11_measure_14 : decode cX11_measure 14 = .ok (.ireturn, 1) := by decide +kernel
theorem dX11_measure_15 : decode cX11_measure 15 = .ok (.aload_n 0, 1) := by decide +kernel
theorem dX11_measure_16 : decode cX11_measure 16 = .ok (.invokevirtual 95, 3) := by decide +kernel
theorem dX11_measure_19 : decode cX11_measure 19 = .ok (.iconst 0, 1) := by decide +kernel
theorem dX11_measure_20 : decode cX11_measure 20 = .ok (.istore_n 2, 1) := by decide +kernel
theorem dX11_measure_21 : decode cX11_measure 21 = .ok (.iconst 1, 1) := by decide +kernel
theorem dX11_measure_22 : decode cX11_measure 22 = .ok (.istore_n 3, 1) := by decide +kernel
theorem dX11_measure_23 : decode cX11_measure 23 = .ok (.iload_n 3, 1) := by decide +kernel
theorem dX11_measure_24 : decode cX11_measure 24 = .ok (.aload_n 0, 1) := by decide +kernel
theorem dX11_measure_25 : decode cX11_measure 25 = .ok (.getfield 10, 3) := by decide +kernel
theorem dX11_measure_28 : decode cX11_measure 28 = .ok (.getfield 147, 3) := by decide +kernel
theorem dX11_measure_31 : decode cX11_measure 31 = .ok (.if_icmp .ge 71, 3) := by decide +kernel
theorem dX11_measure_34 : decode cX11_measure 34 = .ok (.iconst 0, 1) := by decide +kernel
theorem dX11_measure_35 : decode cX11_measure 35 = .ok (.istore 4, 2) := by decide +kernel
theorem dX11_measure_37 : decode cX11_measure 37 = .ok (.iload 4, 2) := by decide +kernel
theorem dX11_measure_39 : decode cX11_measure 39 = .ok (.iload_n 3, 1) := by decide +kernel
theorem dX11_measure_40 : decode cX11_measure 40 = .ok (.if_icmp .ge 56, 3) := by decide +kernel
theorem dX11_measure_43 : decode cX11_measure 43 = .ok (.aload_n 0, 1) := by decide +kernel
theorem dX11_measure_44 : decode cX11_measure 44 = .ok (.getfield 10, 3) := by decide +kernel
theorem dX11_measure_47 : decode cX11_measure 47 = .ok (.iload_n 3, 1) := by decide +kernel
theorem dX11_measure_48 : decode cX11_measure 48 = .ok (.iload 4, 2) := by decide +kernel
theorem dX11_measure_50 : decode cX11_measure 50 = .ok (.iload_n 1, 1) := by decide +kernel
theorem dX11_measure_51 : decode cX11_measure 51 = .ok (.invokevirtual 150, 3) := by decide +kernel
theorem dX11_measure_54 : decode cX11_measure 54 = .ok (.istore 5, 2) := by decide +kernel
theorem dX11_measure_56 : decode cX11_measure 56 = .ok (.iload_n 2, 1) := by decide +kernel
theorem dX11_measure_57 : decode cX11_measure 57 = .ok (.iload 5, 2) := by decide +kernel
theorem dX11_measure_59 : decode cX11_measure 59 = .ok (.sipush 10000, 3) := by decide +kernel
theorem dX11_measure_62 : decode cX11_measure 62 = .ok (.if_icmp .le 7, 3) := by decide +kernel
theorem dX11_measure_65 : decode cX11_measure 65 = .ok (.iconst 1, 1) := by decide +kernel
theorem dX11_measure_66 : decode cX11_measure 66 = .ok (.goto 4, 3) := by decide +kernel
theorem dX11_measure_69 : decode cX11_measure 69 = .ok (.iconst 0, 1) := by decide +kernel
theorem dX11_measure_70 : decode cX11_measure 70 = .ok (.iadd, 1) := by decide +kernel
theorem dX11_measure_71 : decode cX11_measure 71 = .ok (.istore_n 2, 1) := by decide +kernel
theorem dX11_measure_72 : decode cX11_measure 72 = .ok (.aload_n 0, 1) := by decide +kernel
theorem dX11_measure_73 : decode cX11_measure 73 = .ok (.getfield 10, 3) := by decide +kernel
theorem dX11_measure_76 : decode cX11_measure 76 = .ok (.iload_n 3, 1) := by decide +kernel
theorem dX11_measure_77 : decode cX11_measure 77 = .ok (.iload 4, 2) := by decide +kernel
theorem dX11_measure_79 : decode cX11_measure 79 = .ok (.iload 5, 2) := by decide +kernel
theorem dX11_measure_81 : decode cX11_measure 81 = .ok (.sipush 10000, 3) := by decide +kernel
theorem dX11_measure_84 : decode cX11_measure 84 = .ok (.invokestatic 154, 3) := by decide +kernel
theorem dX11_measure_87 : decode cX11_measure 87 = .ok (.invokevirtual 113, 3) := by decide +kernel
theorem dX11_measure_90 : decode cX11_measure 90 = .ok (.iinc 4 1, 3) := by decide +kernel
theorem dX11_measure_93 : decode cX11_measure 93 = .ok (.goto (-56), 3) := by decide +kernel
theorem dX11_measure_96 : decode cX11_measure 96 = .ok (.iinc 3 1, 3) := by decide +kernel
theorem dX11_measure_99 : decode cX11_measure 99 = .ok (.goto (-76), 3) := by decide +kernel
theorem dX11_measure_102 : decode cX11_measure 102 = .ok (.iload_n 2, 1) := by decide +kernel
theorem dX11_measure_103 : decode cX11_measure 103 = .ok (.ireturn, 1) := by decide +kernel
theorem dX11_quarrel_0 : decode cX11_quarrel 0 = .ok (.aload_n 0, 1) := by decide +kernel
theorem dX11_quarrel_1 : decode cX11_quarrel 1 = .ok (.iload_n 1, 1) := by decide +kernel
theorem dX11_quarrel_2 : decode cX11_quarrel 2 = .ok (.iload_n 2, 1) := by decide +kernel
theorem dX11_quarrel_3 : decode cX11_quarrel 3 = .ok (.invokevirtual 101, 3) := by decide +kernel
theorem dX11_quarrel_6 : decode cX11_quarrel 6 = .ok (.ifCond .eq 14, 3) := by decide +kernel
theorem dX11_quarrel_9 : decode cX11_quarrel 9 = .ok (.iload_n 3, 1) := by decide +kernel
theorem dX11_quarrel_10 : decode cX11_quarrel 10 = .ok (.ifCond .lt 10, 3) := by decide +kernel
theorem dX11_quarrel_13 : decode cX11_quarrel 13 = .ok (.iload_n 3, 1) := by decide +kernel
theorem dX11_quarrel_14 : decode cX11_quarrel 14 = .ok (.sipush 1000, 3) := by decide +kernel
theorem dX11_quarrel_17 : decode cX11_quarrel 17 = .ok (.if_icmp .le 9, 3) := by decide +kernel
theorem dX11_quarrel_20 : decode cX11_quarrel 20 = .ok (.aload_n 0, 1) := by decide +kernel
theorem dX11_quarrel_21 : decode cX11_quarrel 21 = .ok (.iconst 1, 1) := by decide +kernel
theorem dX11_quarrel_22 : decode cX11_quarrel 22 = .ok (.invokevirtual 91, 3) := by decide +kernel
theorem dX11_quarrel_25 : decode cX11_quarrel 25 = .ok (.ireturn, 1) := by decide +kernel
theorem dX11_quarrel_26 : decode cX11_quarrel 26 = .ok (.aload_n 0, 1) := by decide +kernel
theorem dX11_quarrel_27 : decode cX11_quarrel 27 = .ok (.invokevirtual 95, 3) := by decide +kernel
theorem dX11_quarrel_30 : decode cX11_quarrel 30 = .ok (.aload_n 0, 1) := by decide +kernel
theorem dX11_quarrel_31 : decode cX11_quarrel 31 = .ok (.getfield 10, 3) := by decide +kernel
theorem dX11_quarrel_34 : decode cX11_quarrel 34 = .ok (.iload_n 1, 1) := by decide +kernel
theorem dX11_quarrel_35 : decode cX11_quarrel 35 = .ok (.iload_n 2, 1) := by decide +kernel
theorem dX11_quarrel_36 : decode cX11_quarrel 36 = .ok (.iload_n 3, 1) := by decide +kernel
theorem dX11_quarrel_37 : decode cX11_quarrel 37 = .ok (.iload 4, 2) := by decide +kernel
theorem dX11_quarrel_39 : decode cX11_quarrel 39 = .ok (.ifCond .eq 7, 3) := by decide +kernel
theorem dX11_quarrel_42 : decode cX11_quarrel 42 = .ok (.iconst 1, 1) := by decide +kernel
theorem dX11_quarrel_43 : decode cX11_quarrel 43 = .ok (.goto 4, 3) := by decide +kernel
theorem dX11_quarrel_46 : decode cX11_quarrel 46 = .ok (.iconst 0, 1) := by decide +kernel
theorem dX11_quarrel_47 : decode cX11_quarrel 47 = .ok (.invokevirtual 159, 3) := by decide +kernel
theorem dX11_quarrel_50 : decode cX11_quarrel 50 = .ok (.iconst 1, 1) := by decide +kernel
theorem dX11_quarrel_51 : decode cX11_quarrel 51 = .ok (.ireturn, 1) := by decide +kernel
theorem dX11_put_0 : decode cX11_put 0 = .ok (.aload_n 0, 1) := by decide +kernel
theorem dX11_put_1 : decode cX11_put 1 = .ok (.iload_n 1, 1) := by decide +kernel
theorem dX11_put_2 : decode cX11_put 2 = .ok (.invokevirtual 131, 3) := by decide +kernel
theorem dX11_put_5 : decode cX11_put 5 = .ok (.ifCond .eq 21, 3) := by decide +kernel
theorem dX11_put_8 : decode cX11_put 8 = .ok (.iload_n 2, 1) := by decide +kernel
theorem dX11_put_9 : decode cX11_put 9 = .ok (.ifCond .lt 17, 3) := by decide +kernel
theorem dX11_put_12 : decode cX11_put 12 = .ok (.iload_n 2, 1) := by decide +kernel
theorem dX11_put_13 : decode cX11_put 13 = .ok (.aload_n 0, 1) := by decide +kernel
theorem dX11_put_14 : decode cX11_put 14 = .ok (.getfield 10, 3) := by decide +kernel
theorem dX11_put_17 : decode cX11_put 17 = .ok (.getfield 163, 3) := by decide +kernel
theorem dX11_put_20 : decode cX11_put 20 = .ok (.getfield 166, 3) := by decide +kernel
theorem dX11_put_23 : decode cX11_put 23 = .ok (.if_icmp .le 9, 3) := by decide +kernel
theorem dX11_put_26 : decode cX11_put 26 = .ok (.aload_n 0, 1) := by decide +kernel
theorem dX11_put_27 : decode cX11_put 27 = .ok (.iconst 1, 1) := by decide +kernel
theorem dX11_put_28 : decode cX11_put 28 = .ok (.invokevirtual 105, 3) := by decide +kernel
theorem dX11_put_31 : decode cX11_put 31 = .ok (.ireturn, 1) := by decide +kernel
theorem dX11_put_32 : decode cX11_put 32 = .ok (.aload_n 0, 1) := by decide +kernel
theorem dX11_put_33 : decode cX11_put 33 = .ok (.invokevirtual 95, 3) := by decide +kernel
theorem dX11_put_36 : decode cX11_put 36 = .ok (.aload_n 0, 1) := by decide +kernel
theorem dX11_put_37 : decode cX11_put 37 = .ok (.getfield 10, 3) := by decide +kernel
theorem dX11_put_40 : decode cX11_put 40 = .ok (.getfield 163, 3) := by decide +kernel
theorem dX11_put_43 : decode cX11_put 43 = .ok (.getfield 169, 3) := by decide +kernel
theorem dX11_put_46 : decode cX11_put 46 = .ok (.iload_n 1, 1) := by decide +kernel
theorem dX11_put_47 : decode cX11_put 47 = .ok (.iload_n 2, 1) := by decide +kernel
theorem dX11_put_48 : decode cX11_put 48 = .ok (.iastore, 1) := by decide +kernel
theorem dX11_put_49 : decode cX11_put 49 = .ok (.aload_n 0, 1) := by decide +kernel
theorem dX11_put_50 : decode cX11_put 50 = .ok (.getfield 10, 3) := by decide +kernel
theorem dX11_put_53 : decode cX11_put 53 = .ok (.getfield 163, 3) := by decide +kernel
theorem dX11_put_56 : decode cX11_put 56 = .ok (.invokevirtual 172, 3) := by decide +kernel
theorem dX11_put_59 : decode cX11_put 59 = .ok (.aload_n 0, 1) := by decide +kernel
theorem dX11_put_60 : decode cX11_put 60 = .ok (.getfield 10, 3) := by decide +kernel
theorem dX11_put_63 : decode cX11_put 63 = .ok (.getfield 163, 3) := by decide +kernel
theorem dX11_put_66 : decode cX11_put 66 = .ok (.getfield 166, 3) := by decide +kernel
theorem dX11_put_69 : decode cX11_put 69 = .ok (.ireturn, 1) := by decide +kernel
theorem dX11_count_0 : decode cX11_count 0 = .ok (.aload_n 0, 1) := by decide +kernel
theorem dX11_count_1 : decode cX11_count 1 = .ok (.iconst 0, 1) := by decide +kernel
theorem dX11_count_2 : decode cX11_count 2 = .ok (.putfield 83, 3) := by decide +kernel
theorem dX11_count_5 : decode cX11_count 5 = .ok (.iload_n 1, 1) := by decide +kernel
theorem dX11_count_6 : decode cX11_count 6 = .ok (.tableswitch 89 0 5 #[38, 46, 57, 65, 73, 81], 38) := by decide +kernel
theorem dX11_count_44 : decode cX11_count 44 = .ok (.aload_n 0, 1) := by decide +kernel
theorem dX11_count_45 : decode cX11_count 45 = .ok (.getfield 10, 3) := by decide +kernel
theorem dX11_count_48 : decode cX11_count 48 = .ok (.getfield 147, 3) := by decide +kernel
theorem dX11_count_51 : decode cX11_count 51 = .ok (.ireturn, 1) := by decide +kernel
theorem dX11_count_52 : decode cX11_count 52 = .ok (.aload_n 0, 1) := by decide +kernel
theorem dX11_count_53 : decode cX11_count 53 = .ok (.getfield 10, 3) := by decide +kernel
theorem dX11_count_56 : decode cX11_count 56 = .ok (.getfield 163, 3) := by decide +kernel
theorem dX11_count_59 : decode cX11_count 59 = .ok (.getfield 166, 3) := by decide +kernel
theorem dX11_count_62 : decode cX11_count 62 = .ok (.ireturn, 1) := by decide +kernel
theorem dX11_count_63 : decode cX11_count 63 = .ok (.aload_n 0, 1) := by decide +kernel
theorem dX11_count_64 : decode cX11_count 64 = .ok (.getfield 19, 3) := by decide +kernel
theorem dX11_count_67 : decode cX11_count 67 = .ok (.getfield 175, 3) := by decide +kernel
theorem dX11_count_70 : decode cX11_count 70 = .ok (.ireturn, 1) := by decide +kernel
theorem dX11_count_71 : decode cX11_count 71 = .ok (.aload_n 0, 1) := by decide +kernel
theorem dX11_count_72 : decode cX11_count 72 = .ok (.getfield 33, 3) := by decide +kernel
theorem dX11_count_75 : decode cX11_count 75 = .ok (.getfield 176, 3) := by decide +kernel
theorem dX11_count_78 : decode cX11_count 78 = .ok (.ireturn, 1) := by decide +kernel
theorem dX11_count_79 : decode cX11_count 79 = .ok (.aload_n 0, 1) := by decide +kernel
theorem dX11_count_80 : decode cX11_count 80 = .ok (.getfield 44, 3) := by decide +kernel
theorem dX11_count_83 : decode cX11_count 83 = .ok (.getfield 177, 3) := by decide +kernel
theorem dX11_count_86 : decode cX11_count 86 = .ok (.ireturn, 1) := by decide +kernel
theorem dX11_count_87 : decode cX11_count 87 = .ok (.aload_n 0, 1) := by decide +kernel
theorem dX11_count_88 : decode cX11_count 88 = .ok (.getfield 26, 3) := by decide +kernel
theorem dX11_count_91 : decode cX11_count 91 = .ok (.getfield 121, 3) := by decide +kernel
theorem dX11_count_94 : decode cX11_count 94 = .ok (.ireturn, 1) := by decide +kernel
theorem dX11_count_95 : decode cX11_count 95 = .ok (.aload_n 0, 1) := by decide +kernel
theorem dX11_count_96 : decode cX11_count 96 = .ok (.iconst 1, 1) := by decide +kernel
theorem dX11_count_97 : decode cX11_count 97 = .ok (.invokevirtual 105, 3) := by decide +kernel
theorem dX11_count_100 : decode cX11_count 100 = .ok (.ireturn, 1) := by decide +kernel
theorem dX11_heap_0 : decode cX11_heap 0 = .ok (.aload_n 0, 1) := by decide +kernel
theorem dX11_heap_1 : decode cX11_heap 1 = .ok (.iload_n 1, 1) := by decide +kernel
theorem dX11_heap_2 : decode cX11_heap 2 = .ok (.invokevirtual 131, 3) := by decide +kernel
theorem dX11_heap_5 : decode cX11_heap 5 = .ok (.ifCond .ne 9, 3) := by decide +kernel
theorem dX11_heap_8 : decode cX11_heap 8 = .ok (.aload_n 0, 1) := by decide +kernel
theorem dX11_heap_9 : decode cX11_heap 9 = .ok (.iconst 1, 1) := by decide +kernel
theorem dX11_heap_10 : decode cX11_heap 10 = .ok (.invokevirtual 105, 3) := by decide +kernel
theorem dX11_heap_13 : decode cX11_heap 13 = .ok (.ireturn, 1) := by decide +kernel
theorem dX11_heap_14 : decode cX11_heap 14 = .ok (.aload_n 0, 1) := by decide +kernel
theorem dX11_heap_15 : decode cX11_heap 15 = .ok (.iconst 0, 1) := by decide +kernel
theorem dX11_heap_16 : decode cX11_heap 16 = .ok (.putfield 83, 3) := by decide +kernel
theorem dX11_heap_19 : decode cX11_heap 19 = .ok (.aload_n 0, 1) := by decide +kernel
theorem dX11_heap_20 : decode cX11_heap 20 = .ok (.getfield 10, 3) := by decide +kernel
theorem dX11_heap_23 : decode cX11_heap 23 = .ok (.getfield 163, 3) := by decide +kernel
theorem dX11_heap_26 : decode cX11_heap 26 = .ok (.getfield 169, 3) := by decide +kernel
theorem dX11_heap_29 : decode cX11_heap 29 = .ok (.iload_n 1, 1) := by decide +kernel
theorem dX11_heap_30 : decode cX11_heap 30 = .ok (.iaload, 1) := by decide +kernel
theorem dX11_heap_31 : decode cX11_heap 31 = .ok (.ireturn, 1) := by decide +kernel
theorem dX11_pair_0 : decode cX11_pair 0 = .ok (.aload_n 0, 1) := by decide +kernel
theorem dX11_pair_1 : decode cX11_pair 1 = .ok (.iload_n 1, 1) := by decide +kernel
theorem dX11_pair_2 : decode cX11_pair 2 = .ok (.invokevirtual 131, 3) := by decide +kernel
theorem dX11_pair_5 : decode cX11_pair 5 = .ok (.ifCond .eq 11, 3) := by decide +kernel
theorem dX11_pair_8 : decode cX11_pair 8 = .ok (.aload_n 0, 1) := by decide +kernel
theorem dX11_pair_9 : decode cX11_pair 9 = .ok (.iload_n 2, 1) := by decide +kernel
theorem dX11_pair_10 : decode cX11_pair 10 = .ok (.invokevirtual 131, 3) := by decide +kernel
theorem dX11_pair_13 : decode cX11_pair 13 = .ok (.ifCond .ne 9, 3) := by decide +kernel
theorem dX11_pair_16 : decode cX11_pair 16 = .ok (.aload_n 0, 1) := by decide +kernel
theorem dX11_pair_17 : decode cX11_pair 17 = .ok (.iconst 1, 1) := by decide +kernel
theorem dX11_pair_18 : decode cX11_pair 18 = .ok (.invokevirtual 105, 3) := by decide +kernel
theorem dX11_pair_21 : decode cX11_pair 21 = .ok (.ireturn, 1) := by decide +kernel
theorem dX11_pair_22 : decode cX11_pair 22 = .ok (.aload_n 0, 1) := by decide +kernel
theorem dX11_pair_23 : decode cX11_pair 23 = .ok (.iconst 0, 1) := by decide +kernel
theorem dX11_pair_24 : decode cX11_pair 24 = .ok (.putfield 83, 3) := by decide +kernel
theorem dX11_pair_27 : decode cX11_pair 27 = .ok (.iload_n 3, 1) := by decide +kernel
theorem dX11_pair_28 : decode cX11_pair 28 = .ok (.tableswitch 58 0 2 #[28, 38, 48], 28) := by decide +kernel
theorem dX11_pair_56 : decode cX11_pair 56 = .ok (.aload_n 0, 1) := by decide +kernel
theorem dX11_pair_57 : decode cX11_pair 57 = .ok (.getfield 10, 3) := by decide +kernel
theorem dX11_pair_60 : decode cX11_pair 60 = .ok (.iload_n 1, 1) := by decide +kernel
theorem dX11_pair_61 : decode cX11_pair 61 = .ok (.iload_n 2, 1) := by decide +kernel
theorem dX11_pair_62 : decode cX11_pair 62 = .ok (.invokevirtual 109, 3) := by decide +kernel
theorem dX11_pair_65 : decode cX11_pair 65 = .ok (.ireturn, 1) := by decide +kernel
theorem dX11_pair_66 : decode cX11_pair 66 = .ok (.aload_n 0, 1) := by decide +kernel
theorem dX11_pair_67 : decode cX11_pair 67 = .ok (.getfield 10, 3) := by decide +kernel
theorem dX11_pair_70 : decode cX11_pair 70 = .ok (.iload_n 1, 1) := by decide +kernel
theorem dX11_pair_71 : decode cX11_pair 71 = .ok (.iload_n 2, 1) := by decide +kernel
theorem dX11_pair_72 : decode cX11_pair 72 = .ok (.invokevirtual 178, 3) := by decide +kernel
theorem dX11_pair_75 : decode cX11_pair 75 = .ok (.ireturn, 1) := by decide +kernel
theorem dX11_pair_76 : decode cX11_pair 76 = .ok (.aload_n 0, 1) := by decide +kernel
theorem dX11_pair_77 : decode cX11_pair 77 = .ok (.getfield 10, 3) := by decide +kernel
theorem dX11_pair_80 : decode cX11_pair 80 = .ok (.iload_n 1, 1) := by decide +kernel
theorem dX11_pair_81 : decode cX11_pair 81 = .ok (.iload_n 2, 1) := by decide +kernel
theorem dX11_pair_82 : decode cX11_pair 82 = .ok (.invokevirtual 181, 3) := by decide +kernel
theorem dX11_pair_85 : decode cX11_pair 85 = .ok (.ireturn, 1) := by decide +kernel
theorem dX11_pair_86 : decode cX11_pair 86 = .ok (.aload_n 0, 1) := by decide +kernel
theorem dX11_pair_87 : decode cX11_pair 87 = .ok (.iconst 1, 1) := by decide +kernel
theorem dX11_pair_88 : decode cX11_pair 88 = .ok (.invokevirtual 105, 3) := by decide +kernel
theorem dX11_pair_91 : decode cX11_pair 91 = .ok (.ireturn, 1) := by decide +kernel
theorem dX11_cost_0 : decode cX11_cost 0 = .ok (.iload_n 1, 1) := by decide +kernel
theorem dX11_cost_1 : decode cX11_cost 1 = .ok (.invokestatic 184, 3) := by decide +kernel
theorem dX11_cost_4 : decode cX11_cost 4 = .ok (.ifCond .ne 10, 3) := by decide +kernel
theorem dX11_cost_7 : decode cX11_cost 7 = .ok (.aload_n 0, 1) := by decide +kernel
theorem dX11_cost_8 : decode cX11_cost 8 = .ok (.iconst 1, 1) := by decide +kernel
theorem dX11_cost_9 : decode cX11_cost 9 = .ok (.invokevirtual 105, 3) := by decide +kernel
theorem dX11_cost_12 : decode cX11_cost 12 = .ok (.i2l, 1) := by decide +kernel
theorem dX11_cost_13 : decode cX11_cost 13 = .ok (.lreturn, 1) := by decide +kernel
theorem dX11_cost_14 : decode cX11_cost 14 = .ok (.aload_n 0, 1) := by decide +kernel
theorem dX11_cost_15 : decode cX11_cost 15 = .ok (.iconst 0, 1) := by decide +kernel
theorem dX11_cost_16 : decode cX11_cost 16 = .ok (.putfield 83, 3) := by decide +kernel
theorem dX11_cost_19 : decode cX11_cost 19 = .ok (.aload_n 0, 1) := by decide +kernel
