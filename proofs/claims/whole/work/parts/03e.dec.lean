theorem dX12_tree_242 : decode cX12_tree 242 = .ok (.iinc 5 1, 3) := by decide +kernel
theorem dX12_tree_245 : decode cX12_tree 245 = .ok (.goto (-31), 3) := by decide +kernel
theorem dX12_tree_248 : decode cX12_tree 248 = .ok (.goto (-200), 3) := by decide +kernel
theorem dX12_tree_251 : decode cX12_tree 251 = .ok (.aload_n 0, 1) := by decide +kernel
theorem dX12_tree_252 : decode cX12_tree 252 = .ok (.getfield 37, 3) := by decide +kernel
theorem dX12_tree_255 : decode cX12_tree 255 = .ok (.ireturn, 1) := by decide +kernel
theorem dX12_joined_0 : decode cX12_joined 0 = .ok (.aload_n 0, 1) := by decide +kernel
theorem dX12_joined_1 : decode cX12_joined 1 = .ok (.iconst 0, 1) := by decide +kernel
theorem dX12_joined_2 : decode cX12_joined 2 = .ok (.putfield 77, 3) := by decide +kernel
theorem dX12_joined_5 : decode cX12_joined 5 = .ok (.aload_n 0, 1) := by decide +kernel
theorem dX12_joined_6 : decode cX12_joined 6 = .ok (.getfield 37, 3) := by decide +kernel
theorem dX12_joined_9 : decode cX12_joined 9 = .ok (.iconst (-1), 1) := by decide +kernel
theorem dX12_joined_10 : decode cX12_joined 10 = .ok (.if_icmp .ne 9, 3) := by decide +kernel
theorem dX12_joined_13 : decode cX12_joined 13 = .ok (.aload_n 0, 1) := by decide +kernel
theorem dX12_joined_14 : decode cX12_joined 14 = .ok (.iconst 2, 1) := by decide +kernel
theorem dX12_joined_15 : decode cX12_joined 15 = .ok (.invokevirtual 98, 3) := by decide +kernel
theorem dX12_joined_18 : decode cX12_joined 18 = .ok (.ireturn, 1) := by decide +kernel
theorem dX12_joined_19 : decode cX12_joined 19 = .ok (.iload_n 1, 1) := by decide +kernel
theorem dX12_joined_20 : decode cX12_joined 20 = .ok (.ifCond .lt 20, 3) := by decide +kernel
theorem dX12_joined_23 : decode cX12_joined 23 = .ok (.iload_n 1, 1) := by decide +kernel
theorem dX12_joined_24 : decode cX12_joined 24 = .ok (.aload_n 0, 1) := by decide +kernel
theorem dX12_joined_25 : decode cX12_joined 25 = .ok (.getfield 37, 3) := by decide +kernel
theorem dX12_joined_28 : decode cX12_joined 28 = .ok (.if_icmp .ge 12, 3) := by decide +kernel
theorem dX12_joined_31 : decode cX12_joined 31 = .ok (.iload_n 2, 1) := by decide +kernel
theorem dX12_joined_32 : decode cX12_joined 32 = .ok (.ifCond .lt 8, 3) := by decide +kernel
theorem dX12_joined_35 : decode cX12_joined 35 = .ok (.iload_n 2, 1) := by decide +kernel
theorem dX12_joined_36 : decode cX12_joined 36 = .ok (.iconst 2, 1) := by decide +kernel
theorem dX12_joined_37 : decode cX12_joined 37 = .ok (.if_icmp .le 9, 3) := by decide +kernel
theorem dX12_joined_40 : decode cX12_joined 40 = .ok (.aload_n 0, 1) := by decide +kernel
theorem dX12_joined_41 : decode cX12_joined 41 = .ok (.iconst 1, 1) := by decide +kernel
theorem dX12_joined_42 : decode cX12_joined 42 = .ok (.invokevirtual 98, 3) := by decide +kernel
theorem dX12_joined_45 : decode cX12_joined 45 = .ok (.ireturn, 1) := by decide +kernel
theorem dX12_joined_46 : decode cX12_joined 46 = .ok (.iload_n 2, 1) := by decide +kernel
theorem dX12_joined_47 : decode cX12_joined 47 = .ok (.ifCond .ne 12, 3) := by decide +kernel
theorem dX12_joined_50 : decode cX12_joined 50 = .ok (.aload_n 0, 1) := by decide +kernel
theorem dX12_joined_51 : decode cX12_joined 51 = .ok (.getfield 40, 3) := by decide +kernel
theorem dX12_joined_54 : decode cX12_joined 54 = .ok (.iload_n 1, 1) := by decide +kernel
theorem dX12_joined_55 : decode cX12_joined 55 = .ok (.iaload, 1) := by decide +kernel
theorem dX12_joined_56 : decode cX12_joined 56 = .ok (.goto 23, 3) := by decide +kernel
theorem dX12_joined_59 : decode cX12_joined 59 = .ok (.iload_n 2, 1) := by decide +kernel
theorem dX12_joined_60 : decode cX12_joined 60 = .ok (.iconst 1, 1) := by decide +kernel
theorem dX12_joined_61 : decode cX12_joined 61 = .ok (.if_icmp .ne 12, 3) := by decide +kernel
theorem dX12_joined_64 : decode cX12_joined 64 = .ok (.aload_n 0, 1) := by decide +kernel
theorem dX12_joined_65 : decode cX12_joined 65 = .ok (.getfield 43, 3) := by decide +kernel
theorem dX12_joined_68 : decode cX12_joined 68 = .ok (.iload_n 1, 1) := by decide +kernel
theorem dX12_joined_69 : decode cX12_joined 69 = .ok (.iaload, 1) := by decide +kernel
theorem dX12_joined_70 : decode cX12_joined 70 = .ok (.goto 9, 3) := by decide +kernel
theorem dX12_joined_73 : decode cX12_joined 73 = .ok (.aload_n 0, 1) := by decide +kernel
theorem dX12_joined_74 : decode cX12_joined 74 = .ok (.getfield 46, 3) := by decide +kernel
theorem dX12_joined_77 : decode cX12_joined 77 = .ok (.iload_n 1, 1) := by decide +kernel
theorem dX12_joined_78 : decode cX12_joined 78 = .ok (.iaload, 1) := by decide +kernel
theorem dX12_joined_79 : decode cX12_joined 79 = .ok (.ireturn, 1) := by decide +kernel
theorem dX12_join_0 : decode cX12_join 0 = .ok (.iconst 0, 1) := by decide +kernel
theorem dX12_join_1 : decode cX12_join 1 = .ok (.istore_n 2, 1) := by decide +kernel
theorem dX12_join_2 : decode cX12_join 2 = .ok (.iload_n 2, 1) := by decide +kernel
theorem dX12_join_3 : decode cX12_join 3 = .ok (.aload_n 0, 1) := by decide +kernel
theorem dX12_join_4 : decode cX12_join 4 = .ok (.invokevirtual 90, 3) := by decide +kernel
theorem dX12_join_7 : decode cX12_join 7 = .ok (.if_icmp .ge 16, 3) := by decide +kernel
theorem dX12_join_10 : decode cX12_join 10 = .ok (.aload_n 0, 1) := by decide +kernel
theorem dX12_join_11 : decode cX12_join 11 = .ok (.getfield 58, 3) := by decide +kernel
theorem dX12_join_14 : decode cX12_join 14 = .ok (.iload_n 2, 1) := by decide +kernel
theorem dX12_join_15 : decode cX12_join 15 = .ok (.iload_n 2, 1) := by decide +kernel
theorem dX12_join_16 : decode cX12_join 16 = .ok (.iastore, 1) := by decide +kernel
theorem dX12_join_17 : decode cX12_join 17 = .ok (.iinc 2 1, 3) := by decide +kernel
theorem dX12_join_20 : decode cX12_join 20 = .ok (.goto (-18), 3) := by decide +kernel
theorem dX12_join_23 : decode cX12_join 23 = .ok (.iconst 0, 1) := by decide +kernel
theorem dX12_join_24 : decode cX12_join 24 = .ok (.istore_n 2, 1) := by decide +kernel
theorem dX12_join_25 : decode cX12_join 25 = .ok (.iload_n 2, 1) := by decide +kernel
theorem dX12_join_26 : decode cX12_join 26 = .ok (.iload_n 1, 1) := by decide +kernel
theorem dX12_join_27 : decode cX12_join 27 = .ok (.if_icmp .ge 52, 3) := by decide +kernel
theorem dX12_join_30 : decode cX12_join 30 = .ok (.iconst 0, 1) := by decide +kernel
theorem dX12_join_31 : decode cX12_join 31 = .ok (.istore_n 3, 1) := by decide +kernel
theorem dX12_join_32 : decode cX12_join 32 = .ok (.iload_n 3, 1) := by decide +kernel
theorem dX12_join_33 : decode cX12_join 33 = .ok (.aload_n 0, 1) := by decide +kernel
theorem dX12_join_34 : decode cX12_join 34 = .ok (.invokevirtual 90, 3) := by decide +kernel
theorem dX12_join_37 : decode cX12_join 37 = .ok (.if_icmp .ge 36, 3) := by decide +kernel
theorem dX12_join_40 : decode cX12_join 40 = .ok (.aload_n 0, 1) := by decide +kernel
theorem dX12_join_41 : decode cX12_join 41 = .ok (.getfield 58, 3) := by decide +kernel
theorem dX12_join_44 : decode cX12_join 44 = .ok (.iload_n 3, 1) := by decide +kernel
theorem dX12_join_45 : decode cX12_join 45 = .ok (.iaload, 1) := by decide +kernel
theorem dX12_join_46 : decode cX12_join 46 = .ok (.aload_n 0, 1) := by decide +kernel
theorem dX12_join_47 : decode cX12_join 47 = .ok (.getfield 43, 3) := by decide +kernel
theorem dX12_join_50 : decode cX12_join 50 = .ok (.iload_n 2, 1) := by decide +kernel
theorem dX12_join_51 : decode cX12_join 51 = .ok (.iaload, 1) := by decide +kernel
theorem dX12_join_52 : decode cX12_join 52 = .ok (.if_icmp .ne 15, 3) := by decide +kernel
theorem dX12_join_55 : decode cX12_join 55 = .ok (.aload_n 0, 1) := by decide +kernel
theorem dX12_join_56 : decode cX12_join 56 = .ok (.getfield 58, 3) := by decide +kernel
theorem dX12_join_59 : decode cX12_join 59 = .ok (.iload_n 3, 1) := by decide +kernel
theorem dX12_join_60 : decode cX12_join 60 = .ok (.aload_n 0, 1) := by decide +kernel
theorem dX12_join_61 : decode cX12_join 61 = .ok (.getfield 40, 3) := by decide +kernel
theorem dX12_join_64 : decode cX12_join 64 = .ok (.iload_n 2, 1) := by decide +kernel
theorem dX12_join_65 : decode cX12_join 65 = .ok (.iaload, 1) := by decide +kernel
theorem dX12_join_66 : decode cX12_join 66 = .ok (.iastore, 1) := by decide +kernel
theorem dX12_join_67 : decode cX12_join 67 = .ok (.iinc 3 1, 3) := by decide +kernel
theorem dX12_join_70 : decode cX12_join 70 = .ok (.goto (-38), 3) := by decide +kernel
theorem dX12_join_73 : decode cX12_join 73 = .ok (.iinc 2 1, 3) := by decide +kernel
theorem dX12_join_76 : decode cX12_join 76 = .ok (.goto (-51), 3) := by decide +kernel
theorem dX12_join_79 : decode cX12_join 79 = .ok (.return_, 1) := by decide +kernel
theorem dX12_height_0 : decode cX12_height 0 = .ok (.aload_n 0, 1) := by decide +kernel
theorem dX12_height_1 : decode cX12_height 1 = .ok (.iconst 0, 1) := by decide +kernel
theorem dX12_height_2 : decode cX12_height 2 = .ok (.putfield 77, 3) := by decide +kernel
theorem dX12_height_5 : decode cX12_height 5 = .ok (.aload_n 0, 1) := by decide +kernel
theorem dX12_height_6 : decode cX12_height 6 = .ok (.iload_n 1, 1) := by decide +kernel
theorem dX12_height_7 : decode cX12_height 7 = .ok (.invokevirtual 94, 3) := by decide +kernel
theorem dX12_height_10 : decode cX12_height 10 = .ok (.ifCond .eq 11, 3) := by decide +kernel
theorem dX12_height_13 : decode cX12_height 13 = .ok (.aload_n 0, 1) := by decide +kernel
theorem dX12_height_14 : decode cX12_height 14 = .ok (.iload_n 2, 1) := by decide +kernel
theorem dX12_height_15 : decode cX12_height 15 = .ok (.invokevirtual 94, 3) := by decide +kernel
theorem dX12_height_18 : decode cX12_height 18 = .ok (.ifCond .ne 9, 3) := by decide +kernel
theorem dX12_height_21 : decode cX12_height 21 = .ok (.aload_n 0, 1) := by decide +kernel
theorem dX12_height_22 : decode cX12_height 22 = .ok (.iconst 1, 1) := by decide +kernel
theorem dX12_height_23 : decode cX12_height 23 = .ok (.invokevirtual 98, 3) := by decide +kernel
theorem dX12_height_26 : decode cX12_height 26 = .ok (.ireturn, 1) := by decide +kernel
theorem dX12_height_27 : decode cX12_height 27 = .ok (.aload_n 0, 1) := by decide +kernel
theorem dX12_height_28 : decode cX12_height 28 = .ok (.getfield 37, 3) := by decide +kernel
theorem dX12_height_31 : decode cX12_height 31 = .ok (.iconst (-1), 1) := by decide +kernel
theorem dX12_height_32 : decode cX12_height 32 = .ok (.if_icmp .ne 9, 3) := by decide +kernel
theorem dX12_height_35 : decode cX12_height 35 = .ok (.aload_n 0, 1) := by decide +kernel
theorem dX12_height_36 : decode cX12_height 36 = .ok (.iconst 2, 1) := by decide +kernel
theorem dX12_height_37 : decode cX12_height 37 = .ok (.invokevirtual 98, 3) := by decide +kernel
theorem dX12_height_40 : decode cX12_height 40 = .ok (.ireturn, 1) := by decide +kernel
theorem dX12_height_41 : decode cX12_height 41 = .ok (.iload_n 1, 1) := by decide +kernel
theorem dX12_height_42 : decode cX12_height 42 = .ok (.iload_n 2, 1) := by decide +kernel
theorem dX12_height_43 : decode cX12_height 43 = .ok (.if_icmp .ne 5, 3) := by decide +kernel
theorem dX12_height_46 : decode cX12_height 46 = .ok (.iconst 0, 1) := by decide +kernel
theorem dX12_height_47 : decode cX12_height 47 = .ok (.ireturn, 1) := by decide +kernel
theorem dX12_height_48 : decode cX12_height 48 = .ok (.iconst 0, 1) := by decide +kernel
theorem dX12_height_49 : decode cX12_height 49 = .ok (.istore_n 3, 1) := by decide +kernel
theorem dX12_height_50 : decode cX12_height 50 = .ok (.iload_n 3, 1) := by decide +kernel
theorem dX12_height_51 : decode cX12_height 51 = .ok (.aload_n 0, 1) := by decide +kernel
theorem dX12_height_52 : decode cX12_height 52 = .ok (.getfield 37, 3) := by decide +kernel
theorem dX12_height_55 : decode cX12_height 55 = .ok (.if_icmp .ge 38, 3) := by decide +kernel
theorem dX12_height_58 : decode cX12_height 58 = .ok (.aload_n 0, 1) := by decide +kernel
theorem dX12_height_59 : decode cX12_height 59 = .ok (.iload_n 3, 1) := by decide +kernel
theorem dX12_height_60 : decode cX12_height 60 = .ok (.iconst 1, 1) := by decide +kernel
theorem dX12_height_61 : decode cX12_height 61 = .ok (.iadd, 1) := by decide +kernel
theorem dX12_height_62 : decode cX12_height 62 = .ok (.invokevirtual 208, 3) := by decide +kernel
theorem dX12_height_65 : decode cX12_height 65 = .ok (.aload_n 0, 1) := by decide +kernel
theorem dX12_height_66 : decode cX12_height 66 = .ok (.getfield 58, 3) := by decide +kernel
theorem dX12_height_69 : decode cX12_height 69 = .ok (.iload_n 1, 1) := by decide +kernel
theorem dX12_height_70 : decode cX12_height 70 = .ok (.iaload, 1) := by decide +kernel
theorem dX12_height_71 : decode cX12_height 71 = .ok (.aload_n 0, 1) := by decide +kernel
theorem dX12_height_72 : decode cX12_height 72 = .ok (.getfield 58, 3) := by decide +kernel
theorem dX12_height_75 : decode cX12_height 75 = .ok (.iload_n 2, 1) := by decide +kernel
theorem dX12_height_76 : decode cX12_height 76 = .ok (.iaload, 1) := by decide +kernel
theorem dX12_height_77 : decode cX12_height 77 = .ok (.if_icmp .ne 10, 3) := by decide +kernel
theorem dX12_height_80 : decode cX12_height 80 = .ok (.aload_n 0, 1) := by decide +kernel
theorem dX12_height_81 : decode cX12_height 81 = .ok (.getfield 46, 3) := by decide +kernel
theorem dX12_height_84 : decode cX12_height 84 = .ok (.iload_n 3, 1) := by decide +kernel
theorem dX12_height_85 : decode cX12_height 85 = .ok (.iaload, 1) := by decide +kernel
theorem dX12_height_86 : decode cX12_height 86 = .ok (.ireturn, 1) := by decide +kernel
theorem dX12_height_87 : decode cX12_height 87 = .ok (.iinc 3 1, 3) := by decide +kernel
theorem dX12_height_90 : decode cX12_height 90 = .ok (.goto (-40), 3) := by decide +kernel
theorem dX12_height_93 : decode cX12_height 93 = .ok (.iconst 0, 1) := by decide +kernel
theorem dX12_height_94 : decode cX12_height 94 = .ok (.ireturn, 1) := by decide +kernel
theorem dX12_cut_0 : decode cX12_cut 0 = .ok (.aload_n 0, 1) := by decide +kernel
theorem dX12_cut_1 : decode cX12_cut 1 = .ok (.iconst 0, 1) := by decide +kernel
theorem dX12_cut_2 : decode cX12_cut 2 = .ok (.putfield 77, 3) := by decide +kernel
theorem dX12_cut_5 : decode cX12_cut 5 = .ok (.aload_n 0, 1) := by decide +kernel
theorem dX12_cut_6 : decode cX12_cut 6 = .ok (.getfield 37, 3) := by decide +kernel
theorem dX12_cut_9 : decode cX12_cut 9 = .ok (.iconst (-1), 1) := by decide +kernel
theorem dX12_cut_10 : decode cX12_cut 10 = .ok (.if_icmp .ne 9, 3) := by decide +kernel
theorem dX12_cut_13 : decode cX12_cut 13 = .ok (.aload_n 0, 1) := by decide +kernel
theorem dX12_cut_14 : decode cX12_cut 14 = .ok (.iconst 2, 1) := by decide +kernel
theorem dX12_cut_15 : decode cX12_cut 15 = .ok (.invokevirtual 98, 3) := by decide +kernel
theorem dX12_cut_18 : decode cX12_cut 18 = .ok (.ireturn, 1) := by decide +kernel
theorem dX12_cut_19 : decode cX12_cut 19 = .ok (.aload_n 0, 1) := by decide +kernel
theorem dX12_cut_20 : decode cX12_cut 20 = .ok (.invokevirtual 102, 3) := by decide +kernel
theorem dX12_cut_23 : decode cX12_cut 23 = .ok (.iconst 0, 1) := by decide +kernel
theorem dX12_cut_24 : decode cX12_cut 24 = .ok (.istore_n 2, 1) := by decide +kernel
theorem dX12_cut_25 : decode cX12_cut 25 = .ok (.iload_n 2, 1) := by decide +kernel
theorem dX12_cut_26 : decode cX12_cut 26 = .ok (.aload_n 0, 1) := by decide +kernel
theorem dX12_cut_27 : decode cX12_cut 27 = .ok (.getfield 37, 3) := by decide +kernel
theorem dX12_cut_30 : decode cX12_cut 30 = .ok (.if_icmp .ge 19, 3) := by decide +kernel
theorem dX12_cut_33 : decode cX12_cut 33 = .ok (.aload_n 0, 1) := by decide +kernel
theorem dX12_cut_34 : decode cX12_cut 34 = .ok (.getfield 46, 3) := by decide +kernel
theorem dX12_cut_37 : decode cX12_cut 37 = .ok (.iload_n 2, 1) := by decide +kernel
theorem dX12_cut_38 : decode cX12_cut 38 = .ok (.iaload, 1) := by decide +kernel
theorem dX12_cut_39 : decode cX12_cut 39 = .ok (.iload_n 1, 1) := by decide +kernel
theorem dX12_cut_40 : decode cX12_cut 40 = .ok (.if_icmp .gt 9, 3) := by decide +kernel
theorem dX12_cut_43 : decode cX12_cut 43 = .ok (.iinc 2 1, 3) := by decide +kernel
theorem dX12_cut_46 : decode cX12_cut 46 = .ok (.goto (-21), 3) := by decide +kernel
theorem dX12_cut_49 : decode cX12_cut 49 = .ok (.aload_n 0, 1) := by decide +kernel
theorem dX12_cut_50 : decode cX12_cut 50 = .ok (.iload_n 2, 1) := by decide +kernel
theorem dX12_cut_51 : decode cX12_cut 51 = .ok (.invokevirtual 208, 3) := by decide +kernel
theorem dX12_cut_54 : decode cX12_cut 54 = .ok (.aload_n 0, 1) := by decide +kernel
theorem dX12_cut_55 : decode cX12_cut 55 = .ok (.aload_n 0, 1) := by decide +kernel
theorem dX12_cut_56 : decode cX12_cut 56 = .ok (.getfield 58, 3) := by decide +kernel
theorem dX12_cut_59 : decode cX12_cut 59 = .ok (.invokevirtual 147, 3) := by decide +kernel
theorem dX12_cut_62 : decode cX12_cut 62 = .ok (.istore_n 3, 1) := by decide +kernel
theorem dX12_cut_63 : decode cX12_cut 63 = .ok (.aload_n 0, 1) := by decide +kernel
theorem dX12_cut_64 : decode cX12_cut 64 = .ok (.aload_n 0, 1) := by decide +kernel
theorem dX12_cut_65 : decode cX12_cut 65 = .ok (.getfield 58, 3) := by decide +kernel
theorem dX12_cut_68 : decode cX12_cut 68 = .ok (.invokevirtual 150, 3) := by decide +kernel
theorem dX12_cut_71 : decode cX12_cut 71 = .ok (.iload_n 3, 1) := by decide +kernel
theorem dX12_cut_72 : decode cX12_cut 72 = .ok (.ireturn, 1) := by decide +kernel
theorem dX12_stirling_0 : decode cX12_stirling 0 = .ok (.iload_n 0, 1) := by decide +kernel
theorem dX12_stirling_1 : decode cX12_stirling 1 = .ok (.ifCond .eq 7, 3) := by decide +kernel
theorem dX12_stirling_4 : decode cX12_stirling 4 = .ok (.iload_n 1, 1) := by decide +kernel
theorem dX12_stirling_5 : decode cX12_stirling 5 = .ok (.ifCond .ne 14, 3) := by decide +kernel
theorem dX12_stirling_8 : decode cX12_stirling 8 = .ok (.iload_n 0, 1) := by decide +kernel
theorem dX12_stirling_9 : decode cX12_stirling 9 = .ok (.iload_n 1, 1) := by decide +kernel
theorem dX12_stirling_10 : decode cX12_stirling 10 = .ok (.if_icmp .ne 7, 3) := by decide +kernel
theorem dX12_stirling_13 : decode cX12_stirling 13 = .ok (.lconst 1, 1) := by decide +kernel
theorem dX12_stirling_14 : decode cX12_stirling 14 = .ok (.goto 4, 3) := by decide +kernel
theorem dX12_stirling_17 : decode cX12_stirling 17 = .ok (.lconst 0, 1) := by decide +kernel
theorem dX12_stirling_18 : decode cX12_stirling 18 = .ok (.lreturn, 1) := by decide +kernel
theorem dX12_stirling_19 : decode cX12_stirling 19 = .ok (.iload_n 1, 1) := by decide +kernel
theorem dX12_stirling_20 : decode cX12_stirling 20 = .ok (.i2l, 1) := by decide +kernel
theorem dX12_stirling_21 : decode cX12_stirling 21 = .ok (.iload_n 0, 1) := by decide +kernel
theorem dX12_stirling_22 : decode cX12_stirling 22 = .ok (.iconst 1, 1) := by decide +kernel
theorem dX12_stirling_23 : decode cX12_stirling 23 = .ok (.isub, 1) := by decide +kernel
theorem dX12_stirling_24 : decode cX12_stirling 24 = .ok (.iload_n 1, 1) := by decide +kernel
theorem dX12_stirling_25 : decode cX12_stirling 25 = .ok (.invokestatic 211, 3) := by decide +kernel
theorem dX12_stirling_28 : decode cX12_stirling 28 = .ok (.lmul, 1) := by decide +kernel
theorem dX12_stirling_29 : decode cX12_stirling 29 = .ok (.iload_n 0, 1) := by decide +kernel
theorem dX12_stirling_30 : decode cX12_stirling 30 = .ok (.iconst 1, 1) := by decide +kernel
theorem dX12_stirling_31 : decode cX12_stirling 31 = .ok (.isub, 1) := by decide +kernel
theorem dX12_stirling_32 : decode cX12_stirling 32 = .ok (.iload_n 1, 1) := by decide +kernel
theorem dX12_stirling_33 : decode cX12_stirling 33 = .ok (.iconst 1, 1) := by decide +kernel
theorem dX12_stirling_34 : decode cX12_stirling 34 = .ok (.isub, 1) := by decide +kernel
theorem dX12_stirling_35 : decode cX12_stirling 35 = .ok (.invokestatic 211, 3) := by decide +kernel
theorem dX12_stirling_38 : decode cX12_stirling 38 = .ok (.ladd, 1) := by decide +kernel
theorem dX12_stirling_39 : decode cX12_stirling 39 = .ok (.lreturn, 1) := by decide +kernel
theorem dX12_many_0 : decode cX12_many 0 = .ok (.aload_n 0, 1) := by decide +kernel
theorem dX12_many_1 : decode cX12_many 1 = .ok (.iconst 0, 1) := by decide +kernel
theorem dX12_many_2 : decode cX12_many 2 = .ok (.putfield 77, 3) := by decide +kernel
theorem dX12_many_5 : decode cX12_many 5 = .ok (.iload_n 1, 1) := by decide +kernel
theorem dX12_many_6 : decode cX12_many 6 = .ok (.ifCond .lt 19, 3) := by decide +kernel
theorem dX12_many_9 : decode cX12_many 9 = .ok (.iload_n 1, 1) := by decide +kernel
theorem dX12_many_10 : decode cX12_many 10 = .ok (.bipush 12, 2) := by decide +kernel
theorem dX12_many_12 : decode cX12_many 12 = .ok (.if_icmp .gt 13, 3) := by decide +kernel
theorem dX12_many_15 : decode cX12_many 15 = .ok (.iload_n 2, 1) := by decide +kernel
theorem dX12_many_16 : decode cX12_many 16 = .ok (.ifCond .lt 9, 3) := by decide +kernel
theorem dX12_many_19 : decode cX12_many 19 = .ok (.iload_n 2, 1) := by decide +kernel
theorem dX12_many_20 : decode cX12_many 20 = .ok (.bipush 12, 2) := by decide +kernel
theorem dX12_many_22 : decode cX12_many 22 = .ok (.if_icmp .le 10, 3) := by decide +kernel
theorem dX12_many_25 : decode cX12_many 25 = .ok (.aload_n 0, 1) := by decide +kernel
theorem dX12_many_26 : decode cX12_many 26 = .ok (.iconst 1, 1) := by decide +kernel
theorem dX12_many_27 : decode cX12_many 27 = .ok (.invokevirtual 98, 3) := by decide +kernel
theorem dX12_many_30 : decode cX12_many 30 = .ok (.i2l, 1) := by decide +kernel
theorem dX12_many_31 : decode cX12_many 31 = .ok (.lreturn, 1) := by decide +kernel
theorem dX12_many_32 : decode cX12_many 32 = .ok (.iload_n 2, 1) := by decide +kernel
theorem dX12_many_33 : decode cX12_many 33 = .ok (.ifCond .le 9, 3) := by decide +kernel
theorem dX12_many_36 : decode cX12_many 36 = .ok (.iload_n 1, 1) := by decide +kernel
theorem dX12_many_37 : decode cX12_many 37 = .ok (.iload_n 2, 1) := by decide +kernel
theorem dX12_many_38 : decode cX12_many 38 = .ok (.invokestatic 211, 3) := by decide +kernel
theorem dX12_many_41 : decode cX12_many 41 = .ok (.lreturn, 1) := by decide +kernel
theorem dX12_many_42 : decode cX12_many 42 = .ok (.lconst 0, 1) := by decide +kernel
theorem dX12_many_43 : decode cX12_many 43 = .ok (.lstore_n 3, 1) := by decide +kernel
theorem dX12_many_44 : decode cX12_many 44 = .ok (.iconst 0, 1) := by decide +kernel
theorem dX12_many_45 : decode cX12_many 45 = .ok (.istore 5, 2) := by decide +kernel
theorem dX12_many_47 : decode cX12_many 47 = .ok (.iload 5, 2) := by decide +kernel
theorem dX12_many_49 : decode cX12_many 49 = .ok (.iload_n 1, 1) := by decide +kernel
theorem dX12_many_50 : decode cX12_many 50 = .ok (.if_icmp .gt 18, 3) := by decide +kernel
theorem dX12_many_53 : decode cX12_many 53 = .ok (.lload_n 3, 1) := by decide +kernel
theorem dX12_many_54 : decode cX12_many 54 = .ok (.iload_n 1, 1) := by decide +kernel
theorem dX12_many_55 : decode cX12_many 55 = .ok (.iload 5, 2) := by decide +kernel
theorem dX12_many_57 : decode cX12_many 57 = .ok (.invokestatic 211, 3) := by decide +kernel
theorem dX12_many_60 : decode cX12_many 60 = .ok (.ladd, 1) := by decide +kernel
theorem dX12_many_61 : decode cX12_many 61 = .ok (.lstore_n 3, 1) := by decide +kernel
theorem dX12_many_62 : decode cX12_many 62 = .ok (.iinc 5 1, 3) := by decide +kernel
theorem dX12_many_65 : decode cX12_many 65 = .ok (.goto (-18), 3) := by decide +kernel
theorem dX12_many_68 : decode cX12_many 68 = .ok (.lload_n 3, 1) := by decide +kernel
theorem dX12_many_69 : decode cX12_many 69 = .ok (.lreturn, 1) := by decide +kernel
theorem dX12_waysOn_0 : decode cX12_waysOn 0 = .ok (.iload_n 0, 1) := by decide +kernel
theorem dX12_waysOn_1 : decode cX12_waysOn 1 = .ok (.ifCond .ne 5, 3) := by decide +kernel
theorem dX12_waysOn_4 : decode cX12_waysOn 4 = .ok (.lconst 1, 1) := by decide +kernel
theorem dX12_waysOn_5 : decode cX12_waysOn 5 = .ok (.lreturn, 1) := by decide +kernel
theorem dX12_waysOn_6 : decode cX12_waysOn 6 = .ok (.iload_n 1, 1) := by decide +kernel
theorem dX12_waysOn_7 : decode cX12_waysOn 7 = .ok (.i2l, 1) := by decide +kernel
theorem dX12_waysOn_8 : decode cX12_waysOn 8 = .ok (.iload_n 0, 1) := by decide +kernel
theorem dX12_waysOn_9 : decode cX12_waysOn 9 = .ok (.iconst 1, 1) := by decide +kernel
theorem dX12_waysOn_10 : decode cX12_waysOn 10 = .ok (.isub, 1) := by decide +kernel
theorem dX12_waysOn_11 : decode cX12_waysOn 11 = .ok (.iload_n 1, 1) := by decide +kernel
theorem dX12_waysOn_12 : decode cX12_waysOn 12 = .ok (.invokestatic 215, 3) := by decide +kernel
theorem dX12_waysOn_15 : decode cX12_waysOn 15 = .ok (.lmul, 1) := by decide +kernel
theorem dX12_waysOn_16 : decode cX12_waysOn 16 = .ok (.iload_n 0, 1) := by decide +kernel
theorem dX12_waysOn_17 : decode cX12_waysOn 17 = .ok (.iconst 1, 1) := by decide +kernel
theorem dX12_waysOn_18 : decode cX12_waysOn 18 = .ok (.isub, 1) := by decide +kernel
theorem dX12_waysOn_19 : decode cX12_waysOn 19 = .ok (.iload_n 1, 1) := by decide +kernel
theorem dX12_waysOn_20 : decode cX12_waysOn 20 = .ok (.iconst 1, 1) := by decide +kernel
theorem dX12_waysOn_21 : decode cX12_waysOn 21 = .ok (.iadd, 1) := by decide +kernel
theorem dX12_waysOn_22 : decode cX12_waysOn 22 = .ok (.invokestatic 215, 3) := by decide +kernel
theorem dX12_waysOn_25 : decode cX12_waysOn 25 = .ok (.ladd, 1) := by decide +kernel
theorem dX12_waysOn_26 : decode cX12_waysOn 26 = .ok (.lreturn, 1) := by decide +kernel
theorem dX12_rank_0 : decode cX12_rank 0 = .ok (.aload_n 0, 1) := by decide +kernel
theorem dX12_rank_1 : decode cX12_rank 1 = .ok (.iconst 0, 1) := by decide +kernel
theorem dX12_rank_2 : decode cX12_rank 2 = .ok (.putfield 77, 3) := by decide +kernel
theorem dX12_rank_5 : decode cX12_rank 5 = .ok (.lconst 0, 1) := by decide +kernel
theorem dX12_rank_6 : decode cX12_rank 6 = .ok (.lstore_n 1, 1) := by decide +kernel
theorem dX12_rank_7 : decode cX12_rank 7 = .ok (.iconst 1, 1) := by decide +kernel
theorem dX12_rank_8 : decode cX12_rank 8 = .ok (.istore_n 3, 1) := by decide +kernel
theorem dX12_rank_9 : decode cX12_rank 9 = .ok (.iconst 1, 1) := by decide +kernel
theorem dX12_rank_10 : decode cX12_rank 10 = .ok (.istore 4, 2) := by decide +kernel
theorem dX12_rank_12 : decode cX12_rank 12 = .ok (.iload 4, 2) := by decide +kernel
theorem dX12_rank_14 : decode cX12_rank 14 = .ok (.aload_n 0, 1) := by decide +kernel
theorem dX12_rank_15 : decode cX12_rank 15 = .ok (.invokevirtual 90, 3) := by decide +kernel
theorem dX12_rank_18 : decode cX12_rank 18 = .ok (.if_icmp .ge 48, 3) := by decide +kernel
theorem dX12_rank_21 : decode cX12_rank 21 = .ok (.lload_n 1, 1) := by decide +kernel
theorem dX12_rank_22 : decode cX12_rank 22 = .ok (.aload_n 0, 1) := by decide +kernel
theorem dX12_rank_23 : decode cX12_rank 23 = .ok (.getfield 26, 3) := by decide +kernel
theorem dX12_rank_26 : decode cX12_rank 26 = .ok (.iload 4, 2) := by decide +kernel
theorem dX12_rank_28 : decode cX12_rank 28 = .ok (.iaload, 1) := by decide +kernel
theorem dX12_rank_29 : decode cX12_rank 29 = .ok (.i2l, 1) := by decide +kernel
theorem dX12_rank_30 : decode cX12_rank 30 = .ok (.aload_n 0, 1) := by decide +kernel
theorem dX12_rank_31 : decode cX12_rank 31 = .ok (.invokevirtual 90, 3) := by decide +kernel
theorem dX12_rank_34 : decode cX12_rank 34 = .ok (.iconst 1, 1) := by decide +kernel
theorem dX12_rank_35 : decode cX12_rank 35 = .ok (.isub, 1) := by decide +kernel
theorem dX12_rank_36 : decode cX12_rank 36 = .ok (.iload 4, 2) := by decide +kernel
theorem dX12_rank_38 : decode cX12_rank 38 = .ok (.isub, 1) := by decide +kernel
theorem dX12_rank_39 : decode cX12_rank 39 = .ok (.iload_n 3, 1) := by decide +kernel
theorem dX12_rank_40 : decode cX12_rank 40 = .ok (.invokestatic 215, 3) := by decide +kernel
theorem dX12_rank_43 : decode cX12_rank 43 = .ok (.lmul, 1) := by decide +kernel
theorem dX12_rank_44 : decode cX12_rank 44 = .ok (.ladd, 1) := by decide +kernel
theorem dX12_rank_45 : decode cX12_rank 45 = .ok (.lstore_n 1, 1) := by decide +kernel
theorem dX12_rank_46 : decode cX12_rank 46 = .ok (.iload_n 3, 1) := by decide +kernel
theorem dX12_rank_47 : decode cX12_rank 47 = .ok (.aload_n 0, 1) := by decide +kernel
theorem dX12_rank_48 : decode cX12_rank 48 = .ok (.getfield 26, 3) := by decide +kernel
theorem dX12_rank_51 : decode cX12_rank 51 = .ok (.iload 4, 2) := by decide +kernel
theorem dX12_rank_53 : decode cX12_rank 53 = .ok (.iaload, 1) := by decide +kernel
theorem dX12_rank_54 : decode cX12_rank 54 = .ok (.iconst 1, 1) := by decide +kernel
theorem dX12_rank_55 : decode cX12_rank 55 = .ok (.iadd, 1) := by decide +kernel
theorem dX12_rank_56 : decode cX12_rank 56 = .ok (.invokestatic 125, 3) := by decide +kernel
theorem dX12_rank_59 : decode cX12_rank 59 = .ok (.istore_n 3, 1) := by decide +kernel
theorem dX12_rank_60 : decode cX12_rank 60 = .ok (.iinc 4 1, 3) := by decide +kernel
theorem dX12_rank_63 : decode cX12_rank 63 = .ok (.goto (-51), 3) := by decide +kernel
theorem dX12_rank_66 : decode cX12_rank 66 = .ok (.lload_n 1, 1) := by decide +kernel
theorem dX12_rank_67 : decode cX12_rank 67 = .ok (.lreturn, 1) := by decide +kernel
theorem dX12_of_0 : decode cX12_of 0 = .ok (.aload_n 0, 1) := by decide +kernel
theorem dX12_of_1 : decode cX12_of 1 = .ok (.iconst 0, 1) := by decide +kernel
theorem dX12_of_2 : decode cX12_of 2 = .ok (.putfield 77, 3) := by decide +kernel
theorem dX12_of_5 : decode cX12_of 5 = .ok (.lload_n 1, 1) := by decide +kernel
theorem dX12_of_6 : decode cX12_of 6 = .ok (.lconst 0, 1) := by decide +kernel
theorem dX12_of_7 : decode cX12_of 7 = .ok (.lcmp, 1) := by decide +kernel
theorem dX12_of_8 : decode cX12_of 8 = .ok (.ifCond .lt 18, 3) := by decide +kernel
theorem dX12_of_11 : decode cX12_of 11 = .ok (.lload_n 1, 1) := by decide +kernel
theorem dX12_of_12 : decode cX12_of 12 = .ok (.aload_n 0, 1) := by decide +kernel
theorem dX12_of_13 : decode cX12_of 13 = .ok (.invokevirtual 90, 3) := by decide +kernel
theorem dX12_of_16 : decode cX12_of 16 = .ok (.iconst 1, 1) := by decide +kernel
theorem dX12_of_17 : decode cX12_of 17 = .ok (.isub, 1) := by decide +kernel
theorem dX12_of_18 : decode cX12_of 18 = .ok (.iconst 1, 1) := by decide +kernel
theorem dX12_of_19 : decode cX12_of 19 = .ok (.invokestatic 215, 3) := by decide +kernel
theorem dX12_of_22 : decode cX12_of 22 = .ok (.lcmp, 1) := by decide +kernel
theorem dX12_of_23 : decode cX12_of 23 = .ok (.ifCond .lt 11, 3) := by decide +kernel
theorem dX12_of_26 : decode cX12_of 26 = .ok (.aload_n 0, 1) := by decide +kernel
theorem dX12_of_27 : decode cX12_of 27 = .ok (.iconst 1, 1) := by decide +kernel
theorem dX12_of_28 : decode cX12_of 28 = .ok (.invokevirtual 98, 3) := by decide +kernel
theorem dX12_of_31 : decode cX12_of 31 = .ok (.pop, 1) := by decide +kernel
theorem dX12_of_32 : decode cX12_of 32 = .ok (.iconst 0, 1) := by decide +kernel
theorem dX12_of_33 : decode cX12_of 33 = .ok (.ireturn, 1) := by decide +kernel
theorem dX12_of_34 : decode cX12_of 34 = .ok (.aload_n 0, 1) := by decide +kernel
theorem dX12_of_35 : decode cX12_of 35 = .ok (.invokevirtual 102, 3) := by decide +kernel
theorem dX12_of_38 : decode cX12_of 38 = .ok (.lload_n 1, 1) := by decide +kernel
theorem dX12_of_39 : decode cX12_of 39 = .ok (.lstore_n 3, 1) := by decide +kernel
theorem dX12_of_40 : decode cX12_of 40 = .ok (.iconst 1, 1) := by decide +kernel
theorem dX12_of_41 : decode cX12_of 41 = .ok (.istore 5, 2) := by decide +kernel
theorem dX12_of_43 : decode cX12_of 43 = .ok (.aload_n 0, 1) := by decide +kernel
theorem dX12_of_44 : decode cX12_of 44 = .ok (.getfield 26, 3) := by decide +kernel
theorem dX12_of_47 : decode cX12_of 47 = .ok (.iconst 0, 1) := by decide +kernel
theorem dX12_of_48 : decode cX12_of 48 = .ok (.iconst 0, 1) := by decide +kernel
theorem dX12_of_49 : decode cX12_of 49 = .ok (.iastore, 1) := by decide +kernel
theorem dX12_of_50 : decode cX12_of 50 = .ok (.iconst 1, 1) := by decide +kernel
theorem dX12_of_51 : decode cX12_of 51 = .ok (.istore 6, 2) := by decide +kernel
theorem dX12_of_53 : decode cX12_of 53 = .ok (.iload 6, 2) := by decide +kernel
theorem dX12_of_55 : decode cX12_of 55 = .ok (.aload_n 0, 1) := by decide +kernel
theorem dX12_of_56 : decode cX12_of 56 = .ok (.invokevirtual 90, 3) := by decide +kernel
theorem dX12_of_59 : decode cX12_of 59 = .ok (.if_icmp .ge 73, 3) := by decide +kernel
theorem dX12_of_62 : decode cX12_of 62 = .ok (.aload_n 0, 1) := by decide +kernel
theorem dX12_of_63 : decode cX12_of 63 = .ok (.invokevirtual 90, 3) := by decide +kernel
theorem dX12_of_66 : decode cX12_of 66 = .ok (.iconst 1, 1) := by decide +kernel
theorem dX12_of_67 : decode cX12_of 67 = .ok (.isub, 1) := by decide +kernel
theorem dX12_of_68 : decode cX12_of 68 = .ok (.iload 6, 2) := by decide +kernel
theorem dX12_of_70 : decode cX12_of 70 = .ok (.isub, 1) := by decide +kernel
theorem dX12_of_71 : decode cX12_of 71 = .ok (.iload 5, 2) := by decide +kernel
theorem dX12_of_73 : decode cX12_of 73 = .ok (.invokestatic 215, 3) := by decide +kernel
theorem dX12_of_76 : decode cX12_of 76 = .ok (.lstore 7, 2) := by decide +kernel
theorem dX12_of_78 : decode cX12_of 78 = .ok (.iconst 0, 1) := by decide +kernel
theorem dX12_of_79 : decode cX12_of 79 = .ok (.istore 9, 2) := by decide +kernel
theorem dX12_of_81 : decode cX12_of 81 = .ok (.iload 9, 2) := by decide +kernel
theorem dX12_of_83 : decode cX12_of 83 = .ok (.iload 5, 2) := by decide +kernel
theorem dX12_of_85 : decode cX12_of 85 = .ok (.if_icmp .ge 21, 3) := by decide +kernel
theorem dX12_of_88 : decode cX12_of 88 = .ok (.lload_n 3, 1) := by decide +kernel
theorem dX12_of_89 : decode cX12_of 89 = .ok (.lload 7, 2) := by decide +kernel
theorem dX12_of_91 : decode cX12_of 91 = .ok (.lcmp, 1) := by decide +kernel
theorem dX12_of_92 : decode cX12_of 92 = .ok (.ifCond .lt 14, 3) := by decide +kernel
theorem dX12_of_95 : decode cX12_of 95 = .ok (.lload_n 3, 1) := by decide +kernel
theorem dX12_of_96 : decode cX12_of 96 = .ok (.lload 7, 2) := by decide +kernel
theorem dX12_of_98 : decode cX12_of 98 = .ok (.lsub, 1) := by decide +kernel
theorem dX12_of_99 : decode cX12_of 99 = .ok (.lstore_n 3, 1) := by decide +kernel
theorem dX12_of_100 : decode cX12_of 100 = .ok (.iinc 9 1, 3) := by decide +kernel
theorem dX12_of_103 : decode cX12_of 103 = .ok (.goto (-22), 3) := by decide +kernel
theorem dX12_of_106 : decode cX12_of 106 = .ok (.aload_n 0, 1) := by decide +kernel
theorem dX12_of_107 : decode cX12_of 107 = .ok (.getfield 26, 3) := by decide +kernel
theorem dX12_of_110 : decode cX12_of 110 = .ok (.iload 6, 2) := by decide +kernel
theorem dX12_of_112 : decode cX12_of 112 = .ok (.iload 9, 2) := by decide +kernel
theorem dX12_of_114 : decode cX12_of 114 = .ok (.iastore, 1) := by decide +kernel
theorem dX12_of_115 : decode cX12_of 115 = .ok (.iload 5, 2) := by decide +kernel
theorem dX12_of_117 : decode cX12_of 117 = .ok (.iload 9, 2) := by decide +kernel
theorem dX12_of_119 : decode cX12_of 119 = .ok (.iconst 1, 1) := by decide +kernel
theorem dX12_of_120 : decode cX12_of 120 = .ok (.iadd, 1) := by decide +kernel
theorem dX12_of_121 : decode cX12_of 121 = .ok (.invokestatic 125, 3) := by decide +kernel
theorem dX12_of_124 : decode cX12_of 124 = .ok (.istore 5, 2) := by decide +kernel
theorem dX12_of_126 : decode cX12_of 126 = .ok (.iinc 6 1, 3) := by decide +kernel
theorem dX12_of_129 : decode cX12_of 129 = .ok (.goto (-76), 3) := by decide +kernel
theorem dX12_of_132 : decode cX12_of 132 = .ok (.iconst 1, 1) := by decide +kernel
theorem dX12_of_133 : decode cX12_of 133 = .ok (.ireturn, 1) := by decide +kernel
theorem dX12_keep_0 : decode cX12_keep 0 = .ok (.aload_n 0, 1) := by decide +kernel
theorem dX12_keep_1 : decode cX12_keep 1 = .ok (.iconst 0, 1) := by decide +kernel
theorem dX12_keep_2 : decode cX12_keep 2 = .ok (.putfield 77, 3) := by decide +kernel
theorem dX12_keep_5 : decode cX12_keep 5 = .ok (.iload_n 1, 1) := by decide +kernel
theorem dX12_keep_6 : decode cX12_keep 6 = .ok (.ifCond .lt 8, 3) := by decide +kernel
theorem dX12_keep_9 : decode cX12_keep 9 = .ok (.iload_n 1, 1) := by decide +kernel
theorem dX12_keep_10 : decode cX12_keep 10 = .ok (.iconst 4, 1) := by decide +kernel
theorem dX12_keep_11 : decode cX12_keep 11 = .ok (.if_icmp .lt 11, 3) := by decide +kernel
theorem dX12_keep_14 : decode cX12_keep 14 = .ok (.aload_n 0, 1) := by decide +kernel
theorem dX12_keep_15 : decode cX12_keep 15 = .ok (.iconst 1, 1) := by decide +kernel
theorem dX12_keep_16 : decode cX12_keep 16 = .ok (.invokevirtual 98, 3) := by decide +kernel
theorem dX12_keep_19 : decode cX12_keep 19 = .ok (.pop, 1) := by decide +kernel
theorem dX12_keep_20 : decode cX12_keep 20 = .ok (.iconst 0, 1) := by decide +kernel
theorem dX12_keep_21 : decode cX12_keep 21 = .ok (.ireturn, 1) := by decide +kernel
theorem dX12_keep_22 : decode cX12_keep 22 = .ok (.aload_n 0, 1) := by decide +kernel
theorem dX12_keep_23 : decode cX12_keep 23 = .ok (.getfield 49, 3) := by decide +kernel
theorem dX12_keep_26 : decode cX12_keep 26 = .ok (.iload_n 1, 1) := by decide +kernel
theorem dX12_keep_27 : decode cX12_keep 27 = .ok (.aload_n 0, 1) := by decide +kernel
theorem dX12_keep_28 : decode cX12_keep 28 = .ok (.invokevirtual 90, 3) := by decide +kernel
theorem dX12_keep_31 : decode cX12_keep 31 = .ok (.iastore, 1) := by decide +kernel
theorem dX12_keep_32 : decode cX12_keep 32 = .ok (.iconst 0, 1) := by decide +kernel
theorem dX12_keep_33 : decode cX12_keep 33 = .ok (.istore_n 2, 1) := by decide +kernel
theorem dX12_keep_34 : decode cX12_keep 34 = .ok (.iload_n 2, 1) := by decide +kernel
theorem dX12_keep_35 : decode cX12_keep 35 = .ok (.aload_n 0, 1) := by decide +kernel
theorem dX12_keep_36 : decode cX12_keep 36 = .ok (.invokevirtual 90, 3) := by decide +kernel
theorem dX12_keep_39 : decode cX12_keep 39 = .ok (.if_icmp .ge 26, 3) := by decide +kernel
theorem dX12_keep_42 : decode cX12_keep 42 = .ok (.aload_n 0, 1) := by decide +kernel
theorem dX12_keep_43 : decode cX12_keep 43 = .ok (.getfield 52, 3) := by decide +kernel
theorem dX12_keep_46 : decode cX12_keep 46 = .ok (.bipush 12, 2) := by decide +kernel
theorem dX12_keep_48 : decode cX12_keep 48 = .ok (.iload_n 1, 1) := by decide +kernel
theorem dX12_keep_49 : decode cX12_keep 49 = .ok (.imul, 1) := by decide +kernel
theorem dX12_keep_50 : decode cX12_keep 50 = .ok (.iload_n 2, 1) := by decide +kernel
theorem dX12_keep_51 : decode cX12_keep 51 = .ok (.iadd, 1) := by decide +kernel
theorem dX12_keep_52 : decode cX12_keep 52 = .ok (.aload_n 0, 1) := by decide +kernel
theorem dX12_keep_53 : decode cX12_keep 53 = .ok (.getfield 26, 3) := by decide +kernel
theorem dX12_keep_56 : decode cX12_keep 56 = .ok (.iload_n 2, 1) := by decide +kernel
theorem dX12_keep_57 : decode cX12_keep 57 = .ok (.iaload, 1) := by decide +kernel
theorem dX12_keep_58 : decode cX12_keep 58 = .ok (.iastore, 1) := by decide +kernel
theorem dX12_keep_59 : decode cX12_keep 59 = .ok (.iinc 2 1, 3) := by decide +kernel
theorem dX12_keep_62 : decode cX12_keep 62 = .ok (.goto (-28), 3) := by decide +kernel
theorem dX12_keep_65 : decode cX12_keep 65 = .ok (.iconst 1, 1) := by decide +kernel
theorem dX12_keep_66 : decode cX12_keep 66 = .ok (.ireturn, 1) := by decide +kernel
theorem dX12_keepWhy_0 : decode cX12_keepWhy 0 = .ok (.iload_n 1, 1) := by decide +kernel
theorem dX12_keepWhy_1 : decode cX12_keepWhy 1 = .ok (.ifCond .lt 8, 3) := by decide +kernel
theorem dX12_keepWhy_4 : decode cX12_keepWhy 4 = .ok (.iload_n 1, 1) := by decide +kernel
theorem dX12_keepWhy_5 : decode cX12_keepWhy 5 = .ok (.iconst 4, 1) := by decide +kernel
theorem dX12_keepWhy_6 : decode cX12_keepWhy 6 = .ok (.if_icmp .lt 7, 3) := by decide +kernel
theorem dX12_keepWhy_9 : decode cX12_keepWhy 9 = .ok (.iconst 1, 1) := by decide +kernel
theorem dX12_keepWhy_10 : decode cX12_keepWhy 10 = .ok (.goto 21, 3) := by decide +kernel
theorem dX12_keepWhy_13 : decode cX12_keepWhy 13 = .ok (.aload_n 0, 1) := by decide +kernel
theorem dX12_keepWhy_14 : decode cX12_keepWhy 14 = .ok (.getfield 49, 3) := by decide +kernel
theorem dX12_keepWhy_17 : decode cX12_keepWhy 17 = .ok (.iload_n 1, 1) := by decide +kernel
theorem dX12_keepWhy_18 : decode cX12_keepWhy 18 = .ok (.iaload, 1) := by decide +kernel
theorem dX12_keepWhy_19 : decode cX12_keepWhy 19 = .ok (.aload_n 0, 1) := by decide +kernel
theorem dX12_keepWhy_20 : decode cX12_keepWhy 20 = .ok (.invokevirtual 90, 3) := by decide +kernel
theorem dX12_keepWhy_23 : decode cX12_keepWhy 23 = .ok (.if_icmp .eq 7, 3) := by decide +kernel
theorem dX12_keepWhy_26 : decode cX12_keepWhy 26 = .ok (.iconst 2, 1) := by decide +kernel
theorem dX12_keepWhy_27 : decode cX12_keepWhy 27 = .ok (.goto 4, 3) := by decide +kernel
theorem dX12_keepWhy_30 : decode cX12_keepWhy 30 = .ok (.iconst 0, 1) := by decide +kernel
theorem dX12_keepWhy_31 : decode cX12_keepWhy 31 = .ok (.ireturn, 1) := by decide +kernel
theorem dX12_differ_0 : decode cX12_differ 0 = .ok (.aload_n 0, 1) := by decide +kernel
theorem dX12_differ_1 : decode cX12_differ 1 = .ok (.iconst 0, 1) := by decide +kernel
theorem dX12_differ_2 : decode cX12_differ 2 = .ok (.putfield 77, 3) := by decide +kernel
theorem dX12_differ_5 : decode cX12_differ 5 = .ok (.aload_n 0, 1) := by decide +kernel
theorem dX12_differ_6 : decode cX12_differ 6 = .ok (.iload_n 1, 1) := by decide +kernel
theorem dX12_differ_7 : decode cX12_differ 7 = .ok (.invokevirtual 218, 3) := by decide +kernel
theorem dX12_differ_10 : decode cX12_differ 10 = .ok (.ifCond .le 13, 3) := by decide +kernel
theorem dX12_differ_13 : decode cX12_differ 13 = .ok (.aload_n 0, 1) := by decide +kernel
theorem dX12_differ_14 : decode cX12_differ 14 = .ok (.aload_n 0, 1) := by decide +kernel
theorem dX12_differ_15 : decode cX12_differ 15 = .ok (.iload_n 1, 1) := by decide +kernel
theorem dX12_differ_16 : decode cX12_differ 16 = .ok (.invokevirtual 218, 3) := by decide +kernel
theorem dX12_differ_19 : decode cX12_differ 19 = .ok (.invokevirtual 98, 3) := by decide +kernel
theorem dX12_differ_22 : decode cX12_differ 22 = .ok (.ireturn, 1) := by decide +kernel
theorem dX12_differ_23 : decode cX12_differ 23 = .ok (.iconst 0, 1) := by decide +kernel
theorem dX12_differ_24 : decode cX12_differ 24 = .ok (.istore_n 2, 1) := by decide +kernel
theorem dX12_differ_25 : decode cX12_differ 25 = .ok (.iconst 0, 1) := by decide +kernel
theorem dX12_differ_26 : decode cX12_differ 26 = .ok (.istore_n 3, 1) := by decide +kernel
theorem dX12_differ_27 : decode cX12_differ 27 = .ok (.iload_n 3, 1) := by decide +kernel
theorem dX12_differ_28 : decode cX12_differ 28 = .ok (.aload_n 0, 1) := by decide +kernel
theorem dX12_differ_29 : decode cX12_differ 29 = .ok (.invokevirtual 90, 3) := by decide +kernel
theorem dX12_differ_32 : decode cX12_differ 32 = .ok (.if_icmp .ge 87, 3) := by decide +kernel
theorem dX12_differ_35 : decode cX12_differ 35 = .ok (.iload_n 3, 1) := by decide +kernel
theorem dX12_differ_36 : decode cX12_differ 36 = .ok (.iconst 1, 1) := by decide +kernel
theorem dX12_differ_37 : decode cX12_differ 37 = .ok (.iadd, 1) := by decide +kernel
theorem dX12_differ_38 : decode cX12_differ 38 = .ok (.istore 4, 2) := by decide +kernel
theorem dX12_differ_40 : decode cX12_differ 40 = .ok (.iload 4, 2) := by decide +kernel
theorem dX12_differ_42 : decode cX12_differ 42 = .ok (.aload_n 0, 1) := by decide +kernel
theorem dX12_differ_43 : decode cX12_differ 43 = .ok (.invokevirtual 90, 3) := by decide +kernel
theorem dX12_differ_46 : decode cX12_differ 46 = .ok (.if_icmp .ge 67, 3) := by decide +kernel
theorem dX12_differ_49 : decode cX12_differ 49 = .ok (.aload_n 0, 1) := by decide +kernel
theorem dX12_differ_50 : decode cX12_differ 50 = .ok (.getfield 26, 3) := by decide +kernel
theorem dX12_differ_53 : decode cX12_differ 53 = .ok (.iload_n 3, 1) := by decide +kernel
theorem dX12_differ_54 : decode cX12_differ 54 = .ok (.iaload, 1) := by decide +kernel
theorem dX12_differ_55 : decode cX12_differ 55 = .ok (.aload_n 0, 1) := by decide +kernel
theorem dX12_differ_56 : decode cX12_differ 56 = .ok (.getfield 26, 3) := by decide +kernel
theorem dX12_differ_59 : decode cX12_differ 59 = .ok (.iload 4, 2) := by decide +kernel
theorem dX12_differ_61 : decode cX12_differ 61 = .ok (.iaload, 1) := by decide +kernel
theorem dX12_differ_62 : decode cX12_differ 62 = .ok (.if_icmp .ne 7, 3) := by decide +kernel
theorem dX12_differ_65 : decode cX12_differ 65 = .ok (.iconst 1, 1) := by decide +kernel
theorem dX12_differ_66 : decode cX12_differ 66 = .ok (.goto 4, 3) := by decide +kernel
theorem dX12_differ_69 : decode cX12_differ 69 = .ok (.iconst 0, 1) := by decide +kernel
theorem dX12_differ_70 : decode cX12_differ 70 = .ok (.aload_n 0, 1) := by decide +kernel
theorem dX12_differ_71 : decode cX12_differ 71 = .ok (.getfield 52, 3) := by decide +kernel
theorem dX12_differ_74 : decode cX12_differ 74 = .ok (.bipush 12, 2) := by decide +kernel
theorem dX12_differ_76 : decode cX12_differ 76 = .ok (.iload_n 1, 1) := by decide +kernel
theorem dX12_differ_77 : decode cX12_differ 77 = .ok (.imul, 1) := by decide +kernel
theorem dX12_differ_78 : decode cX12_differ 78 = .ok (.iload_n 3, 1) := by decide +kernel
theorem dX12_differ_79 : decode cX12_differ 79 = .ok (.iadd, 1) := by decide +kernel
theorem dX12_differ_80 : decode cX12_differ 80 = .ok (.iaload, 1) := by decide +kernel
theorem dX12_differ_81 : decode cX12_differ 81 = .ok (.aload_n 0, 1) := by decide +kernel
theorem dX12_differ_82 : decode cX12_differ 82 = .ok (.getfield 52, 3) := by decide +kernel
theorem dX12_differ_85 : decode cX12_differ 85 = .ok (.bipush 12, 2) := by decide +kernel
theorem dX12_differ_87 : decode cX12_differ 87 = .ok (.iload_n 1, 1) := by decide +kernel
theorem dX12_differ_88 : decode cX12_differ 88 = .ok (.imul, 1) := by decide +kernel
theorem dX12_differ_89 : decode cX12_differ 89 = .ok (.iload 4, 2) := by decide +kernel
theorem dX12_differ_91 : decode cX12_differ 91 = .ok (.iadd, 1) := by decide +kernel
theorem dX12_differ_92 : decode cX12_differ 92 = .ok (.iaload, 1) := by decide +kernel
theorem dX12_differ_93 : decode cX12_differ 93 = .ok (.if_icmp .ne 7, 3) := by decide +kernel
theorem dX12_differ_96 : decode cX12_differ 96 = .ok (.iconst 1, 1) := by decide +kernel
theorem dX12_differ_97 : decode cX12_differ 97 = .ok (.goto 4, 3) := by decide +kernel
theorem dX12_differ_100 : decode cX12_differ 100 = .ok (.iconst 0, 1) := by decide +kernel
theorem dX12_differ_101 : decode cX12_differ 101 = .ok (.if_icmp .eq 6, 3) := by decide +kernel
theorem dX12_differ_104 : decode cX12_differ 104 = .ok (.iinc 2 1, 3) := by decide +kernel
theorem dX12_differ_107 : decode cX12_differ 107 = .ok (.iinc 4 1, 3) := by decide +kernel
theorem dX12_differ_110 : decode cX12_differ 110 = .ok (.goto (-70), 3) := by decide +kernel
theorem dX12_differ_113 : decode cX12_differ 113 = .ok (.iinc 3 1, 3) := by decide +kernel
theorem dX12_differ_116 : decode cX12_differ 116 = .ok (.goto (-89), 3) := by decide +kernel
theorem dX12_differ_119 : decode cX12_differ 119 = .ok (.iload_n 2, 1) := by decide +kernel
theorem dX12_differ_120 : decode cX12_differ 120 = .ok (.ireturn, 1) := by decide +kernel
theorem dX12_both_0 : decode cX12_both 0 = .ok (.aload_n 0, 1) := by decide +kernel
theorem dX12_both_1 : decode cX12_both 1 = .ok (.iconst 0, 1) := by decide +kernel
theorem dX12_both_2 : decode cX12_both 2 = .ok (.putfield 77, 3) := by decide +kernel
theorem dX12_both_5 : decode cX12_both 5 = .ok (.aload_n 0, 1) := by decide +kernel
theorem dX12_both_6 : decode cX12_both 6 = .ok (.iload_n 1, 1) := by decide +kernel
theorem dX12_both_7 : decode cX12_both 7 = .ok (.invokevirtual 218, 3) := by decide +kernel
theorem dX12_both_10 : decode cX12_both 10 = .ok (.ifCond .le 13, 3) := by decide +kernel
theorem dX12_both_13 : decode cX12_both 13 = .ok (.aload_n 0, 1) := by decide +kernel
theorem dX12_both_14 : decode cX12_both 14 = .ok (.aload_n 0, 1) := by decide +kernel
theorem dX12_both_15 : decode cX12_both 15 = .ok (.iload_n 1, 1) := by decide +kernel
theorem dX12_both_16 : decode cX12_both 16 = .ok (.invokevirtual 218, 3) := by decide +kernel
theorem dX12_both_19 : decode cX12_both 19 = .ok (.invokevirtual 98, 3) := by decide +kernel
theorem dX12_both_22 : decode cX12_both 22 = .ok (.ireturn, 1) := by decide +kernel
theorem dX12_both_23 : decode cX12_both 23 = .ok (.aload_n 0, 1) := by decide +kernel
theorem dX12_both_24 : decode cX12_both 24 = .ok (.invokevirtual 102, 3) := by decide +kernel
theorem dX12_both_27 : decode cX12_both 27 = .ok (.iconst 0, 1) := by decide +kernel
theorem dX12_both_28 : decode cX12_both 28 = .ok (.istore_n 2, 1) := by decide +kernel
theorem dX12_both_29 : decode cX12_both 29 = .ok (.iload_n 2, 1) := by decide +kernel
theorem dX12_both_30 : decode cX12_both 30 = .ok (.aload_n 0, 1) := by decide +kernel
theorem dX12_both_31 : decode cX12_both 31 = .ok (.invokevirtual 90, 3) := by decide +kernel
theorem dX12_both_34 : decode cX12_both 34 = .ok (.if_icmp .ge 36, 3) := by decide +kernel
theorem dX12_both_37 : decode cX12_both 37 = .ok (.aload_n 0, 1) := by decide +kernel
theorem dX12_both_38 : decode cX12_both 38 = .ok (.getfield 58, 3) := by decide +kernel
theorem dX12_both_41 : decode cX12_both 41 = .ok (.iload_n 2, 1) := by decide +kernel
theorem dX12_both_42 : decode cX12_both 42 = .ok (.bipush 12, 2) := by decide +kernel
theorem dX12_both_44 : decode cX12_both 44 = .ok (.aload_n 0, 1) := by decide +kernel
theorem dX12_both_45 : decode cX12_both 45 = .ok (.getfield 26, 3) := by decide +kernel
theorem dX12_both_48 : decode cX12_both 48 = .ok (.iload_n 2, 1) := by decide +kernel
theorem dX12_both_49 : decode cX12_both 49 = .ok (.iaload, 1) := by decide +kernel
theorem dX12_both_50 : decode cX12_both 50 = .ok (.imul, 1) := by decide +kernel
theorem dX12_both_51 : decode cX12_both 51 = .ok (.aload_n 0, 1) := by decide +kernel
theorem dX12_both_52 : decode cX12_both 52 = .ok (.getfield 52, 3) := by decide +kernel
theorem dX12_both_55 : decode cX12_both 55 = .ok (.bipush 12, 2) := by decide +kernel
theorem dX12_both_57 : decode cX12_both 57 = .ok (.iload_n 1, 1) := by decide +kernel
theorem dX12_both_58 : decode cX12_both 58 = .ok (.imul, 1) := by decide +kernel
theorem dX12_both_59 : decode cX12_both 59 = .ok (.iload_n 2, 1) := by decide +kernel
theorem dX12_both_60 : decode cX12_both 60 = .ok (.iadd, 1) := by decide +kernel
theorem dX12_both_61 : decode cX12_both 61 = .ok (.iaload, 1) := by decide +kernel
theorem dX12_both_62 : decode cX12_both 62 = .ok (.iadd, 1) := by decide +kernel
theorem dX12_both_63 : decode cX12_both 63 = .ok (.iastore, 1) := by decide +kernel
theorem dX12_both_64 : decode cX12_both 64 = .ok (.iinc 2 1, 3) := by decide +kernel
theorem dX12_both_67 : decode cX12_both 67 = .ok (.goto (-38), 3) := by decide +kernel
theorem dX12_both_70 : decode cX12_both 70 = .ok (.aload_n 0, 1) := by decide +kernel
theorem dX12_both_71 : decode cX12_both 71 = .ok (.aload_n 0, 1) := by decide +kernel
theorem dX12_both_72 : decode cX12_both 72 = .ok (.getfield 58, 3) := by decide +kernel
theorem dX12_both_75 : decode cX12_both 75 = .ok (.invokevirtual 147, 3) := by decide +kernel
theorem dX12_both_78 : decode cX12_both 78 = .ok (.istore_n 2, 1) := by decide +kernel
theorem dX12_both_79 : decode cX12_both 79 = .ok (.aload_n 0, 1) := by decide +kernel
theorem dX12_both_80 : decode cX12_both 80 = .ok (.aload_n 0, 1) := by decide +kernel
theorem dX12_both_81 : decode cX12_both 81 = .ok (.getfield 58, 3) := by decide +kernel
theorem dX12_both_84 : decode cX12_both 84 = .ok (.invokevirtual 150, 3) := by decide +kernel
theorem dX12_both_87 : decode cX12_both 87 = .ok (.iload_n 2, 1) := by decide +kernel
theorem dX12_both_88 : decode cX12_both 88 = .ok (.ireturn, 1) := by decide +kernel
theorem dX12_tell_0 : decode cX12_tell 0 = .ok (.aload_n 0, 1) := by decide +kernel
theorem dX12_tell_1 : decode cX12_tell 1 = .ok (.iconst 0, 1) := by decide +kernel
theorem dX12_tell_2 : decode cX12_tell 2 = .ok (.putfield 77, 3) := by decide +kernel
theorem dX12_tell_5 : decode cX12_tell 5 = .ok (.iload_n 1, 1) := by decide +kernel
theorem dX12_tell_6 : decode cX12_tell 6 = .ok (.ifCond .lt 18, 3) := by decide +kernel
theorem dX12_tell_9 : decode cX12_tell 9 = .ok (.iload_n 1, 1) := by decide +kernel
theorem dX12_tell_10 : decode cX12_tell 10 = .ok (.bipush 11, 2) := by decide +kernel
theorem dX12_tell_12 : decode cX12_tell 12 = .ok (.if_icmp .gt 12, 3) := by decide +kernel
theorem dX12_tell_15 : decode cX12_tell 15 = .ok (.aload_n 0, 1) := by decide +kernel
theorem dX12_tell_16 : decode cX12_tell 16 = .ok (.getfield 154, 3) := by decide +kernel
theorem dX12_tell_19 : decode cX12_tell 19 = .ok (.bipush 12, 2) := by decide +kernel
theorem dX12_tell_21 : decode cX12_tell 21 = .ok (.if_icmp .ne 9, 3) := by decide +kernel
theorem dX12_tell_24 : decode cX12_tell 24 = .ok (.aload_n 0, 1) := by decide +kernel
theorem dX12_tell_25 : decode cX12_tell 25 = .ok (.iconst 1, 1) := by decide +kernel
theorem dX12_tell_26 : decode cX12_tell 26 = .ok (.invokevirtual 98, 3) := by decide +kernel
theorem dX12_tell_29 : decode cX12_tell 29 = .ok (.ireturn, 1) := by decide +kernel
theorem dX12_tell_30 : decode cX12_tell 30 = .ok (.aload_n 0, 1) := by decide +kernel
theorem dX12_tell_31 : decode cX12_tell 31 = .ok (.getfield 55, 3) := by decide +kernel
theorem dX12_tell_34 : decode cX12_tell 34 = .ok (.aload_n 0, 1) := by decide +kernel
theorem dX12_tell_35 : decode cX12_tell 35 = .ok (.getfield 154, 3) := by decide +kernel
theorem dX12_tell_38 : decode cX12_tell 38 = .ok (.iload_n 1, 1) := by decide +kernel
theorem dX12_tell_39 : decode cX12_tell 39 = .ok (.iastore, 1) := by decide +kernel
theorem dX12_tell_40 : decode cX12_tell 40 = .ok (.aload_n 0, 1) := by decide +kernel
theorem dX12_tell_41 : decode cX12_tell 41 = .ok (.dup, 1) := by decide +kernel
theorem dX12_tell_42 : decode cX12_tell 42 = .ok (.getfield 154, 3) := by decide +kernel
theorem dX12_tell_45 : decode cX12_tell 45 = .ok (.iconst 1, 1) := by decide +kernel
theorem dX12_tell_46 : decode cX12_tell 46 = .ok (.iadd, 1) := by decide +kernel
theorem dX12_tell_47 : decode cX12_tell 47 = .ok (.putfield 154, 3) := by decide +kernel
theorem dX12_tell_50 : decode cX12_tell 50 = .ok (.aload_n 0, 1) := by decide +kernel
theorem dX12_tell_51 : decode cX12_tell 51 = .ok (.getfield 154, 3) := by decide +kernel
theorem dX12_tell_54 : decode cX12_tell 54 = .ok (.ireturn, 1) := by decide +kernel
theorem dX12_takeList_0 : decode cX12_takeList 0 = .ok (.aload_n 0, 1) := by decide +kernel
theorem dX12_takeList_1 : decode cX12_takeList 1 = .ok (.getfield 154, 3) := by decide +kernel
theorem dX12_takeList_4 : decode cX12_takeList 4 = .ok (.aload_n 0, 1) := by decide +kernel
theorem dX12_takeList_5 : decode cX12_takeList 5 = .ok (.invokevirtual 90, 3) := by decide +kernel
theorem dX12_takeList_8 : decode cX12_takeList 8 = .ok (.if_icmp .eq 5, 3) := by decide +kernel
theorem dX12_takeList_11 : decode cX12_takeList 11 = .ok (.iconst 0, 1) := by decide +kernel
theorem dX12_takeList_12 : decode cX12_takeList 12 = .ok (.ireturn, 1) := by decide +kernel
theorem dX12_takeList_13 : decode cX12_takeList 13 = .ok (.iconst 0, 1) := by decide +kernel
theorem dX12_takeList_14 : decode cX12_takeList 14 = .ok (.istore_n 1, 1) := by decide +kernel
theorem dX12_takeList_15 : decode cX12_takeList 15 = .ok (.iload_n 1, 1) := by decide +kernel
theorem dX12_takeList_16 : decode cX12_takeList 16 = .ok (.aload_n 0, 1) := by decide +kernel
theorem dX12_takeList_17 : decode cX12_takeList 17 = .ok (.invokevirtual 90, 3) := by decide +kernel
theorem dX12_takeList_20 : decode cX12_takeList 20 = .ok (.if_icmp .ge 21, 3) := by decide +kernel
theorem dX12_takeList_23 : decode cX12_takeList 23 = .ok (.aload_n 0, 1) := by decide +kernel
theorem dX12_takeList_24 : decode cX12_takeList 24 = .ok (.getfield 58, 3) := by decide +kernel
theorem dX12_takeList_27 : decode cX12_takeList 27 = .ok (.iload_n 1, 1) := by decide +kernel
theorem dX12_takeList_28 : decode cX12_takeList 28 = .ok (.aload_n 0, 1) := by decide +kernel
theorem dX12_takeList_29 : decode cX12_takeList 29 = .ok (.getfield 55, 3) := by decide +kernel
theorem dX12_takeList_32 : decode cX12_takeList 32 = .ok (.iload_n 1, 1) := by decide +kernel
theorem dX12_takeList_33 : decode cX12_takeList 33 = .ok (.iaload, 1) := by decide +kernel
theorem dX12_takeList_34 : decode cX12_takeList 34 = .ok (.iastore, 1) := by decide +kernel
theorem dX12_takeList_35 : decode cX12_takeList 35 = .ok (.iinc 1 1, 3) := by decide +kernel
theorem dX12_takeList_38 : decode cX12_takeList 38 = .ok (.goto (-23), 3) := by decide +kernel
theorem dX12_takeList_41 : decode cX12_takeList 41 = .ok (.aload_n 0, 1) := by decide +kernel
theorem dX12_takeList_42 : decode cX12_takeList 42 = .ok (.aload_n 0, 1) := by decide +kernel
theorem dX12_takeList_43 : decode cX12_takeList 43 = .ok (.getfield 58, 3) := by decide +kernel
theorem dX12_takeList_46 : decode cX12_takeList 46 = .ok (.invokevirtual 147, 3) := by decide +kernel
theorem dX12_takeList_49 : decode cX12_takeList 49 = .ok (.pop, 1) := by decide +kernel
theorem dX12_takeList_50 : decode cX12_takeList 50 = .ok (.iconst 1, 1) := by decide +kernel
theorem dX12_takeList_51 : decode cX12_takeList 51 = .ok (.ireturn, 1) := by decide +kernel
theorem dX12_check_0 : decode cX12_check 0 = .ok (.aload_n 0, 1) := by decide +kernel
theorem dX12_check_1 : decode cX12_check 1 = .ok (.iconst 0, 1) := by decide +kernel
theorem dX12_check_2 : decode cX12_check 2 = .ok (.putfield 77, 3) := by decide +kernel
theorem dX12_check_5 : decode cX12_check 5 = .ok (.iload_n 1, 1) := by decide +kernel
theorem dX12_check_6 : decode cX12_check 6 = .ok (.invokestatic 157, 3) := by decide +kernel
theorem dX12_check_9 : decode cX12_check 9 = .ok (.ifCond .ne 9, 3) := by decide +kernel
theorem dX12_check_12 : decode cX12_check 12 = .ok (.aload_n 0, 1) := by decide +kernel
theorem dX12_check_13 : decode cX12_check 13 = .ok (.iconst 1, 1) := by decide +kernel
theorem dX12_check_14 : decode cX12_check 14 = .ok (.invokevirtual 98, 3) := by decide +kernel
theorem dX12_check_17 : decode cX12_check 17 = .ok (.ireturn, 1) := by decide +kernel
theorem dX12_check_18 : decode cX12_check 18 = .ok (.aload_n 0, 1) := by decide +kernel
theorem dX12_check_19 : decode cX12_check 19 = .ok (.invokevirtual 221, 3) := by decide +kernel
theorem dX12_check_22 : decode cX12_check 22 = .ok (.istore 4, 2) := by decide +kernel
theorem dX12_check_24 : decode cX12_check 24 = .ok (.aload_n 0, 1) := by decide +kernel
theorem dX12_check_25 : decode cX12_check 25 = .ok (.iconst 0, 1) := by decide +kernel
theorem dX12_check_26 : decode cX12_check 26 = .ok (.putfield 154, 3) := by decide +kernel
theorem dX12_check_29 : decode cX12_check 29 = .ok (.iload 4, 2) := by decide +kernel
theorem dX12_check_31 : decode cX12_check 31 = .ok (.ifCond .ne 5, 3) := by decide +kernel
theorem dX12_check_34 : decode cX12_check 34 = .ok (.iconst 0, 1) := by decide +kernel
theorem dX12_check_35 : decode cX12_check 35 = .ok (.ireturn, 1) := by decide +kernel
theorem dX12_check_36 : decode cX12_check 36 = .ok (.aload_n 0, 1) := by decide +kernel
theorem dX12_check_37 : decode cX12_check 37 = .ok (.invokevirtual 160, 3) := by decide +kernel
theorem dX12_check_40 : decode cX12_check 40 = .ok (.aload_n 0, 1) := by decide +kernel
theorem dX12_check_41 : decode cX12_check 41 = .ok (.aload_n 0, 1) := by decide +kernel
theorem dX12_check_42 : decode cX12_check 42 = .ok (.getfield 58, 3) := by decide +kernel
theorem dX12_check_45 : decode cX12_check 45 = .ok (.iload_n 1, 1) := by decide +kernel
theorem dX12_check_46 : decode cX12_check 46 = .ok (.invokevirtual 163, 3) := by decide +kernel
theorem dX12_check_49 : decode cX12_check 49 = .ok (.lload_n 2, 1) := by decide +kernel
theorem dX12_check_50 : decode cX12_check 50 = .ok (.lcmp, 1) := by decide +kernel
theorem dX12_check_51 : decode cX12_check 51 = .ok (.ifCond .ne 7, 3) := by decide +kernel
theorem dX12_check_54 : decode cX12_check 54 = .ok (.iconst 2, 1) := by decide +kernel
theorem dX12_check_55 : decode cX12_check 55 = .ok (.goto 4, 3) := by decide +kernel
theorem dX12_check_58 : decode cX12_check 58 = .ok (.iconst 1, 1) := by decide +kernel
theorem dX12_check_59 : decode cX12_check 59 = .ok (.ireturn, 1) := by decide +kernel
theorem dX12_load_0 : decode cX12_load 0 = .ok (.aload_n 0, 1) := by decide +kernel
theorem dX12_load_1 : decode cX12_load 1 = .ok (.iconst 0, 1) := by decide +kernel
theorem dX12_load_2 : decode cX12_load 2 = .ok (.putfield 77, 3) := by decide +kernel
theorem dX12_load_5 : decode cX12_load 5 = .ok (.aload_n 0, 1) := by decide +kernel
theorem dX12_load_6 : decode cX12_load 6 = .ok (.invokevirtual 221, 3) := by decide +kernel
theorem dX12_load_9 : decode cX12_load 9 = .ok (.ifCond .ne 9, 3) := by decide +kernel
theorem dX12_load_12 : decode cX12_load 12 = .ok (.aload_n 0, 1) := by decide +kernel
theorem dX12_load_13 : decode cX12_load 13 = .ok (.iconst 1, 1) := by decide +kernel
theorem dX12_load_14 : decode cX12_load 14 = .ok (.invokevirtual 98, 3) := by decide +kernel
theorem dX12_load_17 : decode cX12_load 17 = .ok (.ireturn, 1) := by decide +kernel
theorem dX12_load_18 : decode cX12_load 18 = .ok (.aload_n 0, 1) := by decide +kernel
theorem dX12_load_19 : decode cX12_load 19 = .ok (.invokevirtual 102, 3) := by decide +kernel
theorem dX12_load_22 : decode cX12_load 22 = .ok (.aload_n 0, 1) := by decide +kernel
theorem dX12_load_23 : decode cX12_load 23 = .ok (.iconst 0, 1) := by decide +kernel
theorem dX12_load_24 : decode cX12_load 24 = .ok (.putfield 154, 3) := by decide +kernel
theorem dX12_load_27 : decode cX12_load 27 = .ok (.aload_n 0, 1) := by decide +kernel
theorem dX12_load_28 : decode cX12_load 28 = .ok (.aload_n 0, 1) := by decide +kernel
theorem dX12_load_29 : decode cX12_load 29 = .ok (.getfield 58, 3) := by decide +kernel
theorem dX12_load_32 : decode cX12_load 32 = .ok (.invokevirtual 150, 3) := by decide +kernel
theorem dX12_load_35 : decode cX12_load 35 = .ok (.aload_n 0, 1) := by decide +kernel
theorem dX12_load_36 : decode cX12_load 36 = .ok (.aload_n 0, 1) := by decide +kernel
theorem dX12_load_37 : decode cX12_load 37 = .ok (.getfield 58, 3) := by decide +kernel
theorem dX12_load_40 : decode cX12_load 40 = .ok (.invokevirtual 133, 3) := by decide +kernel
theorem dX12_load_43 : decode cX12_load 43 = .ok (.ireturn, 1) := by decide +kernel
theorem dX12_undo_0 : decode cX12_undo 0 = .ok (.aload_n 0, 1) := by decide +kernel
theorem dX12_undo_1 : decode cX12_undo 1 = .ok (.iconst 0, 1) := by decide +kernel
theorem dX12_undo_2 : decode cX12_undo 2 = .ok (.putfield 77, 3) := by decide +kernel
theorem dX12_undo_5 : decode cX12_undo 5 = .ok (.aload_n 0, 1) := by decide +kernel
theorem dX12_undo_6 : decode cX12_undo 6 = .ok (.getfield 80, 3) := by decide +kernel
theorem dX12_undo_9 : decode cX12_undo 9 = .ok (.ifCond .ne 9, 3) := by decide +kernel
theorem dX12_undo_12 : decode cX12_undo 12 = .ok (.aload_n 0, 1) := by decide +kernel
theorem dX12_undo_13 : decode cX12_undo 13 = .ok (.iconst 2, 1) := by decide +kernel
theorem dX12_undo_14 : decode cX12_undo 14 = .ok (.invokevirtual 98, 3) := by decide +kernel
theorem dX12_undo_17 : decode cX12_undo 17 = .ok (.ireturn, 1) := by decide +kernel
theorem dX12_undo_18 : decode cX12_undo 18 = .ok (.aload_n 0, 1) := by decide +kernel
theorem dX12_undo_19 : decode cX12_undo 19 = .ok (.dup, 1) := by decide +kernel
theorem dX12_undo_20 : decode cX12_undo 20 = .ok (.getfield 80, 3) := by decide +kernel
theorem dX12_undo_23 : decode cX12_undo 23 = .ok (.iconst 1, 1) := by decide +kernel
theorem dX12_undo_24 : decode cX12_undo 24 = .ok (.isub, 1) := by decide +kernel
theorem dX12_undo_25 : decode cX12_undo 25 = .ok (.putfield 80, 3) := by decide +kernel
theorem dX12_undo_28 : decode cX12_undo 28 = .ok (.aload_n 0, 1) := by decide +kernel
theorem dX12_undo_29 : decode cX12_undo 29 = .ok (.iconst 1, 1) := by decide +kernel
theorem dX12_undo_30 : decode cX12_undo 30 = .ok (.aload_n 0, 1) := by decide +kernel
theorem dX12_undo_31 : decode cX12_undo 31 = .ok (.getfield 83, 3) := by decide +kernel
theorem dX12_undo_34 : decode cX12_undo 34 = .ok (.aload_n 0, 1) := by decide +kernel
theorem dX12_undo_35 : decode cX12_undo 35 = .ok (.getfield 80, 3) := by decide +kernel
theorem dX12_undo_38 : decode cX12_undo 38 = .ok (.iadd, 1) := by decide +kernel
theorem dX12_undo_39 : decode cX12_undo 39 = .ok (.bipush 20, 2) := by decide +kernel
theorem dX12_undo_41 : decode cX12_undo 41 = .ok (.irem, 1) := by decide +kernel
theorem dX12_undo_42 : decode cX12_undo 42 = .ok (.iadd, 1) := by decide +kernel
theorem dX12_undo_43 : decode cX12_undo 43 = .ok (.iconst 0, 1) := by decide +kernel
theorem dX12_undo_44 : decode cX12_undo 44 = .ok (.invokevirtual 86, 3) := by decide +kernel
theorem dX12_undo_47 : decode cX12_undo 47 = .ok (.aload_n 0, 1) := by decide +kernel
theorem dX12_undo_48 : decode cX12_undo 48 = .ok (.iconst (-1), 1) := by decide +kernel
theorem dX12_undo_49 : decode cX12_undo 49 = .ok (.putfield 37, 3) := by decide +kernel
theorem dX12_undo_52 : decode cX12_undo 52 = .ok (.aload_n 0, 1) := by decide +kernel
theorem dX12_undo_53 : decode cX12_undo 53 = .ok (.getfield 80, 3) := by decide +kernel
theorem dX12_undo_56 : decode cX12_undo 56 = .ok (.ireturn, 1) := by decide +kernel
theorem dX12_fault_0 : decode cX12_fault 0 = .ok (.aload_n 0, 1) := by decide +kernel
theorem dX12_fault_1 : decode cX12_fault 1 = .ok (.getfield 77, 3) := by decide +kernel
theorem dX12_fault_4 : decode cX12_fault 4 = .ok (.ireturn, 1) := by decide +kernel
theorem dJ6_bitCount_0f7a4_0 : decode cJ6_bitCount_0f7a4 0 = .ok (.iload_n 0, 1) := by decide +kernel
theorem dJ6_bitCount_0f7a4_1 : decode cJ6_bitCount_0f7a4 1 = .ok (.iload_n 0, 1) := by decide +kernel
theorem dJ6_bitCount_0f7a4_2 : decode cJ6_bitCount_0f7a4 2 = .ok (.iconst 1, 1) := by decide +kernel
theorem dJ6_bitCount_0f7a4_3 : decode cJ6_bitCount_0f7a4 3 = .ok (.iushr, 1) := by decide +kernel
theorem dJ6_bitCount_0f7a4_4 : decode cJ6_bitCount_0f7a4 4 = .ok (.ldc_w 265, 3) := by decide +kernel
theorem dJ6_bitCount_0f7a4_7 : decode cJ6_bitCount_0f7a4 7 = .ok (.iand, 1) := by decide +kernel
theorem dJ6_bitCount_0f7a4_8 : decode cJ6_bitCount_0f7a4 8 = .ok (.isub, 1) := by decide +kernel
theorem dJ6_bitCount_0f7a4_9 : decode cJ6_bitCount_0f7a4 9 = .ok (.istore_n 0, 1) := by decide +kernel
theorem dJ6_bitCount_0f7a4_10 : decode cJ6_bitCount_0f7a4 10 = .ok (.iload_n 0, 1) := by decide +kernel
theorem dJ6_bitCount_0f7a4_11 : decode cJ6_bitCount_0f7a4 11 = .ok (.ldc_w 266, 3) := by decide +kernel
theorem dJ6_bitCount_0f7a4_14 : decode cJ6_bitCount_0f7a4 14 = .ok (.iand, 1) := by decide +kernel
theorem dJ6_bitCount_0f7a4_15 : decode cJ6_bitCount_0f7a4 15 = .ok (.iload_n 0, 1) := by decide +kernel
theorem dJ6_bitCount_0f7a4_16 : decode cJ6_bitCount_0f7a4 16 = .ok (.iconst 2, 1) := by decide +kernel
theorem dJ6_bitCount_0f7a4_17 : decode cJ6_bitCount_0f7a4 17 = .ok (.iushr, 1) := by decide +kernel
theorem dJ6_bitCount_0f7a4_18 : decode cJ6_bitCount_0f7a4 18 = .ok (.ldc_w 266, 3) := by decide +kernel
theorem dJ6_bitCount_0f7a4_21 : decode cJ6_bitCount_0f7a4 21 = .ok (.iand, 1) := by decide +kernel
theorem dJ6_bitCount_0f7a4_22 : decode cJ6_bitCount_0f7a4 22 = .ok (.iadd, 1) := by decide +kernel
theorem dJ6_bitCount_0f7a4_23 : decode cJ6_bitCount_0f7a4 23 = .ok (.istore_n 0, 1) := by decide +kernel
theorem dJ6_bitCount_0f7a4_24 : decode cJ6_bitCount_0f7a4 24 = .ok (.iload_n 0, 1) := by decide +kernel
theorem dJ6_bitCount_0f7a4_25 : decode cJ6_bitCount_0f7a4 25 = .ok (.iload_n 0, 1) := by decide +kernel
theorem dJ6_bitCount_0f7a4_26 : decode cJ6_bitCount_0f7a4 26 = .ok (.iconst 4, 1) := by decide +kernel
theorem dJ6_bitCount_0f7a4_27 : decode cJ6_bitCount_0f7a4 27 = .ok (.iushr, 1) := by decide +kernel
theorem dJ6_bitCount_0f7a4_28 : decode cJ6_bitCount_0f7a4 28 = .ok (.iadd, 1) := by decide +kernel
theorem dJ6_bitCount_0f7a4_29 : decode cJ6_bitCount_0f7a4 29 = .ok (.ldc_w 267, 3) := by decide +kernel
theorem dJ6_bitCount_0f7a4_32 : decode cJ6_bitCount_0f7a4 32 = .ok (.iand, 1) := by decide +kernel
theorem dJ6_bitCount_0f7a4_33 : decode cJ6_bitCount_0f7a4 33 = .ok (.istore_n 0, 1) := by decide +kernel
theorem dJ6_bitCount_0f7a4_34 : decode cJ6_bitCount_0f7a4 34 = .ok (.iload_n 0, 1) := by decide +kernel
theorem dJ6_bitCount_0f7a4_35 : decode cJ6_bitCount_0f7a4 35 = .ok (.iload_n 0, 1) := by decide +kernel
theorem dJ6_bitCount_0f7a4_36 : decode cJ6_bitCount_0f7a4 36 = .ok (.bipush 8, 2) := by decide +kernel
theorem dJ6_bitCount_0f7a4_38 : decode cJ6_bitCount_0f7a4 38 = .ok (.iushr, 1) := by decide +kernel
theorem dJ6_bitCount_0f7a4_39 : decode cJ6_bitCount_0f7a4 39 = .ok (.iadd, 1) := by decide +kernel
theorem dJ6_bitCount_0f7a4_40 : decode cJ6_bitCount_0f7a4 40 = .ok (.istore_n 0, 1) := by decide +kernel
theorem dJ6_bitCount_0f7a4_41 : decode cJ6_bitCount_0f7a4 41 = .ok (.iload_n 0, 1) := by decide +kernel
theorem dJ6_bitCount_0f7a4_42 : decode cJ6_bitCount_0f7a4 42 = .ok (.iload_n 0, 1) := by decide +kernel
theorem dJ6_bitCount_0f7a4_43 : decode cJ6_bitCount_0f7a4 43 = .ok (.bipush 16, 2) := by decide +kernel
theorem dJ6_bitCount_0f7a4_45 : decode cJ6_bitCount_0f7a4 45 = .ok (.iushr, 1) := by decide +kernel
theorem dJ6_bitCount_0f7a4_46 : decode cJ6_bitCount_0f7a4 46 = .ok (.iadd, 1) := by decide +kernel
theorem dJ6_bitCount_0f7a4_47 : decode cJ6_bitCount_0f7a4 47 = .ok (.istore_n 0, 1) := by decide +kernel
theorem dJ6_bitCount_0f7a4_48 : decode cJ6_bitCount_0f7a4 48 = .ok (.iload_n 0, 1) := by decide +kernel
theorem dJ6_bitCount_0f7a4_49 : decode cJ6_bitCount_0f7a4 49 = .ok (.bipush 63, 2) := by decide +kernel
theorem dJ6_bitCount_0f7a4_51 : decode cJ6_bitCount_0f7a4 51 = .ok (.iand, 1) := by decide +kernel
theorem dJ6_bitCount_0f7a4_52 : decode cJ6_bitCount_0f7a4 52 = .ok (.ireturn, 1) := by decide +kernel
theorem dJ9_abs_0f7a4_0 : decode cJ9_abs_0f7a4 0 = .ok (.iload_n 0, 1) := by decide +kernel
theorem dJ9_abs_0f7a4_1 : decode cJ9_abs_0f7a4 1 = .ok (.ifCond .ge 8, 3) := by decide +kernel
theorem dJ9_abs_0f7a4_4 : decode cJ9_abs_0f7a4 4 = .ok (.iload_n 0, 1) := by decide +kernel
theorem dJ9_abs_0f7a4_5 : decode cJ9_abs_0f7a4 5 = .ok (.ineg, 1) := by decide +kernel
theorem dJ9_abs_0f7a4_6 : decode cJ9_abs_0f7a4 6 = .ok (.goto 4, 3) := by decide +kernel
theorem dJ9_abs_0f7a4_9 : decode cJ9_abs_0f7a4 9 = .ok (.iload_n 0, 1) := by decide +kernel
theorem dJ9_abs_0f7a4_10 : decode cJ9_abs_0f7a4 10 = .ok (.ireturn, 1) := by decide +kernel
theorem dJ9_max_7cf53_0 : decode cJ9_max_7cf53 0 = .ok (.iload_n 0, 1) := by decide +kernel
theorem dJ9_max_7cf53_1 : decode cJ9_max_7cf53 1 = .ok (.iload_n 1, 1) := by decide +kernel
theorem dJ9_max_7cf53_2 : decode cJ9_max_7cf53 2 = .ok (.if_icmp .lt 7, 3) := by decide +kernel
theorem dJ9_max_7cf53_5 : decode cJ9_max_7cf53 5 = .ok (.iload_n 0, 1) := by decide +kernel
theorem dJ9_max_7cf53_6 : decode cJ9_max_7cf53 6 = .ok (.goto 4, 3) := by decide +kernel
theorem dJ9_max_7cf53_9 : decode cJ9_max_7cf53 9 = .ok (.iload_n 1, 1) := by decide +kernel
theorem dJ9_max_7cf53_10 : decode cJ9_max_7cf53 10 = .ok (.ireturn, 1) := by decide +kernel
theorem dJ9_max_f86c9_0 : decode cJ9_max_f86c9 0 = .ok (.lload_n 0, 1) := by decide +kernel
theorem dJ9_max_f86c9_1 : decode cJ9_max_f86c9 1 = .ok (.lload_n 2, 1) := by decide +kernel
theorem dJ9_max_f86c9_2 : decode cJ9_max_f86c9 2 = .ok (.lcmp, 1) := by decide +kernel
theorem dJ9_max_f86c9_3 : decode cJ9_max_f86c9 3 = .ok (.ifCond .lt 7, 3) := by decide +kernel
theorem dJ9_max_f86c9_6 : decode cJ9_max_f86c9 6 = .ok (.lload_n 0, 1) := by decide +kernel
theorem dJ9_max_f86c9_7 : decode cJ9_max_f86c9 7 = .ok (.goto 4, 3) := by decide +kernel
theorem dJ9_max_f86c9_10 : decode cJ9_max_f86c9 10 = .ok (.lload_n 2, 1) := by decide +kernel
theorem dJ9_max_f86c9_11 : decode cJ9_max_f86c9 11 = .ok (.lreturn, 1) := by decide +kernel
theorem dJ9_min_7cf53_0 : decode cJ9_min_7cf53 0 = .ok (.iload_n 0, 1) := by decide +kernel
theorem dJ9_min_7cf53_1 : decode cJ9_min_7cf53 1 = .ok (.iload_n 1, 1) := by decide +kernel
theorem dJ9_min_7cf53_2 : decode cJ9_min_7cf53 2 = .ok (.if_icmp .gt 7, 3) := by decide +kernel
theorem dJ9_min_7cf53_5 : decode cJ9_min_7cf53 5 = .ok (.iload_n 0, 1) := by decide +kernel
theorem dJ9_min_7cf53_6 : decode cJ9_min_7cf53 6 = .ok (.goto 4, 3) := by decide +kernel
theorem dJ9_min_7cf53_9 : decode cJ9_min_7cf53 9 = .ok (.iload_n 1, 1) := by decide +kernel
theorem dJ9_min_7cf53_10 : decode cJ9_min_7cf53 10 = .ok (.ireturn, 1) := by decide +kernel
theorem dJ7_fill_d0a16_0 : decode cJ7_fill_d0a16 0 = .ok (.iconst 0, 1) := by decide +kernel
theorem dJ7_fill_d0a16_1 : decode cJ7_fill_d0a16 1 = .ok (.istore_n 3, 1) := by decide +kernel
theorem dJ7_fill_d0a16_2 : decode cJ7_fill_d0a16 2 = .ok (.aload_n 0, 1) := by decide +kernel
theorem dJ7_fill_d0a16_3 : decode cJ7_fill_d0a16 3 = .ok (.arraylength, 1) := by decide +kernel
theorem dJ7_fill_d0a16_4 : decode cJ7_fill_d0a16 4 = .ok (.istore 4, 2) := by decide +kernel
theorem dJ7_fill_d0a16_6 : decode cJ7_fill_d0a16 6 = .ok (.iload_n 3, 1) := by decide +kernel
theorem dJ7_fill_d0a16_7 : decode cJ7_fill_d0a16 7 = .ok (.iload 4, 2) := by decide +kernel
theorem dJ7_fill_d0a16_9 : decode cJ7_fill_d0a16 9 = .ok (.if_icmp .ge 13, 3) := by decide +kernel
theorem dJ7_fill_d0a16_12 : decode cJ7_fill_d0a16 12 = .ok (.aload_n 0, 1) := by decide +kernel
theorem dJ7_fill_d0a16_13 : decode cJ7_fill_d0a16 13 = .ok (.iload_n 3, 1) := by decide +kernel
theorem dJ7_fill_d0a16_14 : decode cJ7_fill_d0a16 14 = .ok (.lload_n 1, 1) := by decide +kernel
theorem dJ7_fill_d0a16_15 : decode cJ7_fill_d0a16 15 = .ok (.lastore, 1) := by decide +kernel
theorem dJ7_fill_d0a16_16 : decode cJ7_fill_d0a16 16 = .ok (.iinc 3 1, 3) := by decide +kernel
theorem dJ7_fill_d0a16_19 : decode cJ7_fill_d0a16 19 = .ok (.goto (-13), 3) := by decide +kernel
theorem dJ7_fill_d0a16_22 : decode cJ7_fill_d0a16 22 = .ok (.return_, 1) := by decide +kernel
theorem dJ7_fill_53178_0 : decode cJ7_fill_53178 0 = .ok (.iconst 0, 1) := by decide +kernel
theorem dJ7_fill_53178_1 : decode cJ7_fill_53178 1 = .ok (.istore_n 2, 1) := by decide +kernel
theorem dJ7_fill_53178_2 : decode cJ7_fill_53178 2 = .ok (.aload_n 0, 1) := by decide +kernel
theorem dJ7_fill_53178_3 : decode cJ7_fill_53178 3 = .ok (.arraylength, 1) := by decide +kernel
theorem dJ7_fill_53178_4 : decode cJ7_fill_53178 4 = .ok (.istore_n 3, 1) := by decide +kernel
theorem dJ7_fill_53178_5 : decode cJ7_fill_53178 5 = .ok (.iload_n 2, 1) := by decide +kernel
theorem dJ7_fill_53178_6 : decode cJ7_fill_53178 6 = .ok (.iload_n 3, 1) := by decide +kernel
theorem dJ7_fill_53178_7 : decode cJ7_fill_53178 7 = .ok (.if_icmp .ge 13, 3) := by decide +kernel
theorem dJ7_fill_53178_10 : decode cJ7_fill_53178 10 = .ok (.aload_n 0, 1) := by decide +kernel
theorem dJ7_fill_53178_11 : decode cJ7_fill_53178 11 = .ok (.iload_n 2, 1) := by decide +kernel
theorem dJ7_fill_53178_12 : decode cJ7_fill_53178 12 = .ok (.iload_n 1, 1) := by decide +kernel
theorem dJ7_fill_53178_13 : decode cJ7_fill_53178 13 = .ok (.iastore, 1) := by decide +kernel
theorem dJ7_fill_53178_14 : decode cJ7_fill_53178 14 = .ok (.iinc 2 1, 3) := by decide +kernel
theorem dJ7_fill_53178_17 : decode cJ7_fill_53178 17 = .ok (.goto (-12), 3) := by decide +kernel
theorem dJ7_fill_53178_20 : decode cJ7_fill_53178 20 = .ok (.return_, 1) := by decide +kernel
theorem dL_law_0 : decode cL_law 0 = .ok (.new 7, 3) := by decide +kernel
theorem dL_law_3 : decode cL_law 3 = .ok (.dup, 1) := by decide +kernel
theorem dL_law_4 : decode cL_law 4 = .ok (.invokespecial 9, 3) := by decide +kernel
theorem dL_law_7 : decode cL_law 7 = .ok (.astore_n 1, 1) := by decide +kernel
theorem dL_law_8 : decode cL_law 8 = .ok (.new 10, 3) := by decide +kernel
theorem dL_law_11 : decode cL_law 11 = .ok (.dup, 1) := by decide +kernel
theorem dL_law_12 : decode cL_law 12 = .ok (.invokespecial 12, 3) := by decide +kernel
theorem dL_law_15 : decode cL_law 15 = .ok (.astore_n 2, 1) := by decide +kernel
theorem dL_law_16 : decode cL_law 16 = .ok (.iconst 0, 1) := by decide +kernel
theorem dL_law_17 : decode cL_law 17 = .ok (.istore_n 3, 1) := by decide +kernel
theorem dL_law_18 : decode cL_law 18 = .ok (.iload_n 3, 1) := by decide +kernel
theorem dL_law_19 : decode cL_law 19 = .ok (.aload_n 0, 1) := by decide +kernel
theorem dL_law_20 : decode cL_law 20 = .ok (.arraylength, 1) := by decide +kernel
theorem dL_law_21 : decode cL_law 21 = .ok (.iconst 5, 1) := by decide +kernel
theorem dL_law_22 : decode cL_law 22 = .ok (.isub, 1) := by decide +kernel
theorem dL_law_23 : decode cL_law 23 = .ok (.if_icmp .gt 1206, 3) := by decide +kernel
theorem dL_law_26 : decode cL_law 26 = .ok (.aload_n 0, 1) := by decide +kernel
theorem dL_law_27 : decode cL_law 27 = .ok (.iload_n 3, 1) := by decide +kernel
theorem dL_law_28 : decode cL_law 28 = .ok (.iaload, 1) := by decide +kernel
theorem dL_law_29 : decode cL_law 29 = .ok (.bipush 63, 2) := by decide +kernel
theorem dL_law_31 : decode cL_law 31 = .ok (.iand, 1) := by decide +kernel
theorem dL_law_32 : decode cL_law 32 = .ok (.tableswitch 1191 0 35 #[160, 183, 226, 259, 322, 345, 368, 437, 470, 493, 516, 559, 583, 606, 640, 674, 697, 710, 733, 757, 771, 784, 807, 840, 873, 896, 930, 944, 997, 1020, 1043, 1066, 1089, 1152, 1165, 1178], 160) := by decide +kernel
theorem dL_law_192 : decode cL_law 192 = .ok (.aload_n 1, 1) := by decide +kernel
theorem dL_law_193 : decode cL_law 193 = .ok (.aload_n 0, 1) := by decide +kernel
theorem dL_law_194 : decode cL_law 194 = .ok (.iload_n 3, 1) := by decide +kernel
theorem dL_law_195 : decode cL_law 195 = .ok (.iconst 1, 1) := by decide +kernel
theorem dL_law_196 : decode cL_law 196 = .ok (.iadd, 1) := by decide +kernel
theorem dL_law_197 : decode cL_law 197 = .ok (.iaload, 1) := by decide +kernel
theorem dL_law_198 : decode cL_law 198 = .ok (.invokevirtual 13, 3) := by decide +kernel
theorem dL_law_201 : decode cL_law 201 = .ok (.aload_n 2, 1) := by decide +kernel
theorem dL_law_202 : decode cL_law 202 = .ok (.aload_n 0, 1) := by decide +kernel
theorem dL_law_203 : decode cL_law 203 = .ok (.iload_n 3, 1) := by decide +kernel
theorem dL_law_204 : decode cL_law 204 = .ok (.iconst 1, 1) := by decide +kernel
theorem dL_law_205 : decode cL_law 205 = .ok (.iadd, 1) := by decide +kernel
theorem dL_law_206 : decode cL_law 206 = .ok (.iaload, 1) := by decide +kernel
theorem dL_law_207 : decode cL_law 207 = .ok (.invokevirtual 17, 3) := by decide +kernel
theorem dL_law_210 : decode cL_law 210 = .ok (.if_icmp .eq 1013, 3) := by decide +kernel
theorem dL_law_213 : decode cL_law 213 = .ok (.iconst 0, 1) := by decide +kernel
theorem dL_law_214 : decode cL_law 214 = .ok (.ireturn, 1) := by decide +kernel
theorem dL_law_215 : decode cL_law 215 = .ok (.aload_n 1, 1) := by decide +kernel
theorem dL_law_216 : decode cL_law 216 = .ok (.aload_n 0, 1) := by decide +kernel
theorem dL_law_217 : decode cL_law 217 = .ok (.iload_n 3, 1) := by decide +kernel
theorem dL_law_218 : decode cL_law 218 = .ok (.iconst 1, 1) := by decide +kernel
theorem dL_law_219 : decode cL_law 219 = .ok (.iadd, 1) := by decide +kernel
theorem dL_law_220 : decode cL_law 220 = .ok (.iaload, 1) := by decide +kernel
theorem dL_law_221 : decode cL_law 221 = .ok (.aload_n 0, 1) := by decide +kernel
theorem dL_law_222 : decode cL_law 222 = .ok (.iload_n 3, 1) := by decide +kernel
theorem dL_law_223 : decode cL_law 223 = .ok (.iconst 2, 1) := by decide +kernel
theorem dL_law_224 : decode cL_law 224 = .ok (.iadd, 1) := by decide +kernel
theorem dL_law_225 : decode cL_law 225 = .ok (.iaload, 1) := by decide +kernel
theorem dL_law_226 : decode cL_law 226 = .ok (.aload_n 0, 1) := by decide +kernel
theorem dL_law_227 : decode cL_law 227 = .ok (.iload_n 3, 1) := by decide +kernel
theorem dL_law_228 : decode cL_law 228 = .ok (.iconst 3, 1) := by decide +kernel
theorem dL_law_229 : decode cL_law 229 = .ok (.iadd, 1) := by decide +kernel
theorem dL_law_230 : decode cL_law 230 = .ok (.iaload, 1) := by decide +kernel
theorem dL_law_231 : decode cL_law 231 = .ok (.invokevirtual 18, 3) := by decide +kernel
theorem dL_law_234 : decode cL_law 234 = .ok (.aload_n 2, 1) := by decide +kernel
theorem dL_law_235 : decode cL_law 235 = .ok (.aload_n 0, 1) := by decide +kernel
theorem dL_law_236 : decode cL_law 236 = .ok (.iload_n 3, 1) := by decide +kernel
theorem dL_law_237 : decode cL_law 237 = .ok (.iconst 1, 1) := by decide +kernel
theorem dL_law_238 : decode cL_law 238 = .ok (.iadd, 1) := by decide +kernel
theorem dL_law_239 : decode cL_law 239 = .ok (.iaload, 1) := by decide +kernel
theorem dL_law_240 : decode cL_law 240 = .ok (.aload_n 0, 1) := by decide +kernel
theorem dL_law_241 : decode cL_law 241 = .ok (.iload_n 3, 1) := by decide +kernel
theorem dL_law_242 : decode cL_law 242 = .ok (.iconst 2, 1) := by decide +kernel
theorem dL_law_243 : decode cL_law 243 = .ok (.iadd, 1) := by decide +kernel
theorem dL_law_244 : decode cL_law 244 = .ok (.iaload, 1) := by decide +kernel
theorem dL_law_245 : decode cL_law 245 = .ok (.aload_n 0, 1) := by decide +kernel
theorem dL_law_246 : decode cL_law 246 = .ok (.iload_n 3, 1) := by decide +kernel
theorem dL_law_247 : decode cL_law 247 = .ok (.iconst 3, 1) := by decide +kernel
theorem dL_law_248 : decode cL_law 248 = .ok (.iadd, 1) := by decide +kernel
theorem dL_law_249 : decode cL_law 249 = .ok (.iaload, 1) := by decide +kernel
theorem dL_law_250 : decode cL_law 250 = .ok (.invokevirtual 22, 3) := by decide +kernel
theorem dL_law_253 : decode cL_law 253 = .ok (.if_icmp .eq 970, 3) := by decide +kernel
theorem dL_law_256 : decode cL_law 256 = .ok (.iconst 0, 1) := by decide +kernel
theorem dL_law_257 : decode cL_law 257 = .ok (.ireturn, 1) := by decide +kernel
theorem dL_law_258 : decode cL_law 258 = .ok (.aload_n 1, 1) := by decide +kernel
theorem dL_law_259 : decode cL_law 259 = .ok (.aload_n 0, 1) := by decide +kernel
theorem dL_law_260 : decode cL_law 260 = .ok (.iload_n 3, 1) := by decide +kernel
theorem dL_law_261 : decode cL_law 261 = .ok (.iconst 1, 1) := by decide +kernel
theorem dL_law_262 : decode cL_law 262 = .ok (.iadd, 1) := by decide +kernel
theorem dL_law_263 : decode cL_law 263 = .ok (.iaload, 1) := by decide +kernel
theorem dL_law_264 : decode cL_law 264 = .ok (.aload_n 0, 1) := by decide +kernel
theorem dL_law_265 : decode cL_law 265 = .ok (.iload_n 3, 1) := by decide +kernel
theorem dL_law_266 : decode cL_law 266 = .ok (.iconst 2, 1) := by decide +kernel
theorem dL_law_267 : decode cL_law 267 = .ok (.iadd, 1) := by decide +kernel
theorem dL_law_268 : decode cL_law 268 = .ok (.iaload, 1) := by decide +kernel
theorem dL_law_269 : decode cL_law 269 = .ok (.invokevirtual 23, 3) := by decide +kernel
theorem dL_law_272 : decode cL_law 272 = .ok (.aload_n 2, 1) := by decide +kernel
theorem dL_law_273 : decode cL_law 273 = .ok (.aload_n 0, 1) := by decide +kernel
theorem dL_law_274 : decode cL_law 274 = .ok (.iload_n 3, 1) := by decide +kernel
theorem dL_law_275 : decode cL_law 275 = .ok (.iconst 1, 1) := by decide +kernel
theorem dL_law_276 : decode cL_law 276 = .ok (.iadd, 1) := by decide +kernel
theorem dL_law_277 : decode cL_law 277 = .ok (.iaload, 1) := by decide +kernel
theorem dL_law_278 : decode cL_law 278 = .ok (.aload_n 0, 1) := by decide +kernel
theorem dL_law_279 : decode cL_law 279 = .ok (.iload_n 3, 1) := by decide +kernel
theorem dL_law_280 : decode cL_law 280 = .ok (.iconst 2, 1) := by decide +kernel
theorem dL_law_281 : decode cL_law 281 = .ok (.iadd, 1) := by decide +kernel
theorem dL_law_282 : decode cL_law 282 = .ok (.iaload, 1) := by decide +kernel
theorem dL_law_283 : decode cL_law 283 = .ok (.invokevirtual 27, 3) := by decide +kernel
theorem dL_law_286 : decode cL_law 286 = .ok (.if_icmp .eq 937, 3) := by decide +kernel
theorem dL_law_289 : decode cL_law 289 = .ok (.iconst 0, 1) := by decide +kernel
theorem dL_law_290 : decode cL_law 290 = .ok (.ireturn, 1) := by decide +kernel
theorem dL_law_291 : decode cL_law 291 = .ok (.aload_n 1, 1) := by decide +kernel
theorem dL_law_292 : decode cL_law 292 = .ok (.aload_n 0, 1) := by decide +kernel
theorem dL_law_293 : decode cL_law 293 = .ok (.iload_n 3, 1) := by decide +kernel
theorem dL_law_294 : decode cL_law 294 = .ok (.iconst 1, 1) := by decide +kernel
theorem dL_law_295 : decode cL_law 295 = .ok (.iadd, 1) := by decide +kernel
theorem dL_law_296 : decode cL_law 296 = .ok (.iaload, 1) := by decide +kernel
theorem dL_law_297 : decode cL_law 297 = .ok (.aload_n 0, 1) := by decide +kernel
theorem dL_law_298 : decode cL_law 298 = .ok (.iload_n 3, 1) := by decide +kernel
theorem dL_law_299 : decode cL_law 299 = .ok (.iconst 2, 1) := by decide +kernel
theorem dL_law_300 : decode cL_law 300 = .ok (.iadd, 1) := by decide +kernel
theorem dL_law_301 : decode cL_law 301 = .ok (.iaload, 1) := by decide +kernel
theorem dL_law_302 : decode cL_law 302 = .ok (.i2l, 1) := by decide +kernel
theorem dL_law_303 : decode cL_law 303 = .ok (.bipush 32, 2) := by decide +kernel
theorem dL_law_305 : decode cL_law 305 = .ok (.lshl, 1) := by decide +kernel
theorem dL_law_306 : decode cL_law 306 = .ok (.aload_n 0, 1) := by decide +kernel
theorem dL_law_307 : decode cL_law 307 = .ok (.iload_n 3, 1) := by decide +kernel
theorem dL_law_308 : decode cL_law 308 = .ok (.iconst 3, 1) := by decide +kernel
theorem dL_law_309 : decode cL_law 309 = .ok (.iadd, 1) := by decide +kernel
theorem dL_law_310 : decode cL_law 310 = .ok (.iaload, 1) := by decide +kernel
theorem dL_law_311 : decode cL_law 311 = .ok (.i2l, 1) := by decide +kernel
theorem dL_law_312 : decode cL_law 312 = .ok (.ldc2_w 28, 3) := by decide +kernel
theorem dL_law_315 : decode cL_law 315 = .ok (.land, 1) := by decide +kernel
theorem dL_law_316 : decode cL_law 316 = .ok (.lor, 1) := by decide +kernel
theorem dL_law_317 : decode cL_law 317 = .ok (.invokevirtual 30, 3) := by decide +kernel
theorem dL_law_320 : decode cL_law 320 = .ok (.aload_n 2, 1) := by decide +kernel
theorem dL_law_321 : decode cL_law 321 = .ok (.aload_n 0, 1) := by decide +kernel
theorem dL_law_322 : decode cL_law 322 = .ok (.iload_n 3, 1) := by decide +kernel
theorem dL_law_323 : decode cL_law 323 = .ok (.iconst 1, 1) := by decide +kernel
theorem dL_law_324 : decode cL_law 324 = .ok (.iadd, 1) := by decide +kernel
theorem dL_law_325 : decode cL_law 325 = .ok (.iaload, 1) := by decide +kernel
theorem dL_law_326 : decode cL_law 326 = .ok (.aload_n 0, 1) := by decide +kernel
theorem dL_law_327 : decode cL_law 327 = .ok (.iload_n 3, 1) := by decide +kernel
theorem dL_law_328 : decode cL_law 328 = .ok (.iconst 2, 1) := by decide +kernel
theorem dL_law_329 : decode cL_law 329 = .ok (.iadd, 1) := by decide +kernel
theorem dL_law_330 : decode cL_law 330 = .ok (.iaload, 1) := by decide +kernel
theorem dL_law_331 : decode cL_law 331 = .ok (.i2l, 1) := by decide +kernel
theorem dL_law_332 : decode cL_law 332 = .ok (.bipush 32, 2) := by decide +kernel
theorem dL_law_334 : decode cL_law 334 = .ok (.lshl, 1) := by decide +kernel
theorem dL_law_335 : decode cL_law 335 = .ok (.aload_n 0, 1) := by decide +kernel
theorem dL_law_336 : decode cL_law 336 = .ok (.iload_n 3, 1) := by decide +kernel
theorem dL_law_337 : decode cL_law 337 = .ok (.iconst 3, 1) := by decide +kernel
theorem dL_law_338 : decode cL_law 338 = .ok (.iadd, 1) := by decide +kernel
theorem dL_law_339 : decode cL_law 339 = .ok (.iaload, 1) := by decide +kernel
theorem dL_law_340 : decode cL_law 340 = .ok (.i2l, 1) := by decide +kernel
theorem dL_law_341 : decode cL_law 341 = .ok (.ldc2_w 28, 3) := by decide +kernel
theorem dL_law_344 : decode cL_law 344 = .ok (.land, 1) := by decide +kernel
theorem dL_law_345 : decode cL_law 345 = .ok (.lor, 1) := by decide +kernel
theorem dL_law_346 : decode cL_law 346 = .ok (.invokevirtual 34, 3) := by decide +kernel
theorem dL_law_349 : decode cL_law 349 = .ok (.if_icmp .eq 874, 3) := by decide +kernel
theorem dL_law_352 : decode cL_law 352 = .ok (.iconst 0, 1) := by decide +kernel
theorem dL_law_353 : decode cL_law 353 = .ok (.ireturn, 1) := by decide +kernel
theorem dL_law_354 : decode cL_law 354 = .ok (.aload_n 1, 1) := by decide +kernel
theorem dL_law_355 : decode cL_law 355 = .ok (.aload_n 0, 1) := by decide +kernel
theorem dL_law_356 : decode cL_law 356 = .ok (.iload_n 3, 1) := by decide +kernel
theorem dL_law_357 : decode cL_law 357 = .ok (.iconst 1, 1) := by decide +kernel
theorem dL_law_358 : decode cL_law 358 = .ok (.iadd, 1) := by decide +kernel
theorem dL_law_359 : decode cL_law 359 = .ok (.iaload, 1) := by decide +kernel
theorem dL_law_360 : decode cL_law 360 = .ok (.invokevirtual 35, 3) := by decide +kernel
theorem dL_law_363 : decode cL_law 363 = .ok (.aload_n 2, 1) := by decide +kernel
theorem dL_law_364 : decode cL_law 364 = .ok (.aload_n 0, 1) := by decide +kernel
theorem dL_law_365 : decode cL_law 365 = .ok (.iload_n 3, 1) := by decide +kernel
theorem dL_law_366 : decode cL_law 366 = .ok (.iconst 1, 1) := by decide +kernel
theorem dL_law_367 : decode cL_law 367 = .ok (.iadd, 1) := by decide +kernel
theorem dL_law_368 : decode cL_law 368 = .ok (.iaload, 1) := by decide +kernel
theorem dL_law_369 : decode cL_law 369 = .ok (.invokevirtual 38, 3) := by decide +kernel
theorem dL_law_372 : decode cL_law 372 = .ok (.if_icmp .eq 851, 3) := by decide +kernel
theorem dL_law_375 : decode cL_law 375 = .ok (.iconst 0, 1) := by decide +kernel
theorem dL_law_376 : decode cL_law 376 = .ok (.ireturn, 1) := by decide +kernel
theorem dL_law_377 : decode cL_law 377 = .ok (.aload_n 1, 1) := by decide +kernel
theorem dL_law_378 : decode cL_law 378 = .ok (.aload_n 0, 1) := by decide +kernel
theorem dL_law_379 : decode cL_law 379 = .ok (.iload_n 3, 1) := by decide +kernel
theorem dL_law_380 : decode cL_law 380 = .ok (.iconst 1, 1) := by decide +kernel
theorem dL_law_381 : decode cL_law 381 = .ok (.iadd, 1) := by decide +kernel
theorem dL_law_382 : decode cL_law 382 = .ok (.iaload, 1) := by decide +kernel
theorem dL_law_383 : decode cL_law 383 = .ok (.invokevirtual 39, 3) := by decide +kernel
theorem dL_law_386 : decode cL_law 386 = .ok (.aload_n 2, 1) := by decide +kernel
theorem dL_law_387 : decode cL_law 387 = .ok (.aload_n 0, 1) := by decide +kernel
theorem dL_law_388 : decode cL_law 388 = .ok (.iload_n 3, 1) := by decide +kernel
theorem dL_law_389 : decode cL_law 389 = .ok (.iconst 1, 1) := by decide +kernel
theorem dL_law_390 : decode cL_law 390 = .ok (.iadd, 1) := by decide +kernel
theorem dL_law_391 : decode cL_law 391 = .ok (.iaload, 1) := by decide +kernel
theorem dL_law_392 : decode cL_law 392 = .ok (.invokevirtual 43, 3) := by decide +kernel
theorem dL_law_395 : decode cL_law 395 = .ok (.if_icmp .eq 828, 3) := by decide +kernel
theorem dL_law_398 : decode cL_law 398 = .ok (.iconst 0, 1) := by decide +kernel
theorem dL_law_399 : decode cL_law 399 = .ok (.ireturn, 1) := by decide +kernel
theorem dL_law_400 : decode cL_law 400 = .ok (.aload_n 1, 1) := by decide +kernel
theorem dL_law_401 : decode cL_law 401 = .ok (.aload_n 0, 1) := by decide +kernel
theorem dL_law_402 : decode cL_law 402 = .ok (.iload_n 3, 1) := by decide +kernel
theorem dL_law_403 : decode cL_law 403 = .ok (.iconst 1, 1) := by decide +kernel
theorem dL_law_404 : decode cL_law 404 = .ok (.iadd, 1) := by decide +kernel
theorem dL_law_405 : decode cL_law 405 = .ok (.iaload, 1) := by decide +kernel
theorem dL_law_406 : decode cL_law 406 = .ok (.aload_n 0, 1) := by decide +kernel
theorem dL_law_407 : decode cL_law 407 = .ok (.iload_n 3, 1) := by decide +kernel
theorem dL_law_408 : decode cL_law 408 = .ok (.iconst 2, 1) := by decide +kernel
theorem dL_law_409 : decode cL_law 409 = .ok (.iadd, 1) := by decide +kernel
theorem dL_law_410 : decode cL_law 410 = .ok (.iaload, 1) := by decide +kernel
theorem dL_law_411 : decode cL_law 411 = .ok (.aload_n 0, 1) := by decide +kernel
theorem dL_law_412 : decode cL_law 412 = .ok (.iload_n 3, 1) := by decide +kernel
theorem dL_law_413 : decode cL_law 413 = .ok (.iconst 3, 1) := by decide +kernel
theorem dL_law_414 : decode cL_law 414 = .ok (.iadd, 1) := by decide +kernel
theorem dL_law_415 : decode cL_law 415 = .ok (.iaload, 1) := by decide +kernel
theorem dL_law_416 : decode cL_law 416 = .ok (.aload_n 0, 1) := by decide +kernel
theorem dL_law_417 : decode cL_law 417 = .ok (.iload_n 3, 1) := by decide +kernel
theorem dL_law_418 : decode cL_law 418 = .ok (.iconst 4, 1) := by decide +kernel
theorem dL_law_419 : decode cL_law 419 = .ok (.iadd, 1) := by decide +kernel
theorem dL_law_420 : decode cL_law 420 = .ok (.iaload, 1) := by decide +kernel
theorem dL_law_421 : decode cL_law 421 = .ok (.ifCond .eq 7, 3) := by decide +kernel
theorem dL_law_424 : decode cL_law 424 = .ok (.iconst 1, 1) := by decide +kernel
theorem dL_law_425 : decode cL_law 425 = .ok (.goto 4, 3) := by decide +kernel
theorem dL_law_428 : decode cL_law 428 = .ok (.iconst 0, 1) := by decide +kernel
theorem dL_law_429 : decode cL_law 429 = .ok (.invokevirtual 44, 3) := by decide +kernel
theorem dL_law_432 : decode cL_law 432 = .ok (.aload_n 2, 1) := by decide +kernel
theorem dL_law_433 : decode cL_law 433 = .ok (.aload_n 0, 1) := by decide +kernel
theorem dL_law_434 : decode cL_law 434 = .ok (.iload_n 3, 1) := by decide +kernel
theorem dL_law_435 : decode cL_law 435 = .ok (.iconst 1, 1) := by decide +kernel
theorem dL_law_436 : decode cL_law 436 = .ok (.iadd, 1) := by decide +kernel
theorem dL_law_437 : decode cL_law 437 = .ok (.iaload, 1) := by decide +kernel
theorem dL_law_438 : decode cL_law 438 = .ok (.aload_n 0, 1) := by decide +kernel
theorem dL_law_439 : decode cL_law 439 = .ok (.iload_n 3, 1) := by decide +kernel
theorem dL_law_440 : decode cL_law 440 = .ok (.iconst 2, 1) := by decide +kernel
theorem dL_law_441 : decode cL_law 441 = .ok (.iadd, 1) := by decide +kernel
theorem dL_law_442 : decode cL_law 442 = .ok (.iaload, 1) := by decide +kernel
theorem dL_law_443 : decode cL_law 443 = .ok (.aload_n 0, 1) := by decide +kernel
theorem dL_law_444 : decode cL_law 444 = .ok (.iload_n 3, 1) := by decide +kernel
theorem dL_law_445 : decode cL_law 445 = .ok (.iconst 3, 1) := by decide +kernel
theorem dL_law_446 : decode cL_law 446 = .ok (.iadd, 1) := by decide +kernel
theorem dL_law_447 : decode cL_law 447 = .ok (.iaload, 1) := by decide +kernel
theorem dL_law_448 : decode cL_law 448 = .ok (.aload_n 0, 1) := by decide +kernel
theorem dL_law_449 : decode cL_law 449 = .ok (.iload_n 3, 1) := by decide +kernel
theorem dL_law_450 : decode cL_law 450 = .ok (.iconst 4, 1) := by decide +kernel
theorem dL_law_451 : decode cL_law 451 = .ok (.iadd, 1) := by decide +kernel
theorem dL_law_452 : decode cL_law 452 = .ok (.iaload, 1) := by decide +kernel
theorem dL_law_453 : decode cL_law 453 = .ok (.ifCond .eq 7, 3) := by decide +kernel
theorem dL_law_456 : decode cL_law 456 = .ok (.iconst 1, 1) := by decide +kernel
theorem dL_law_457 : decode cL_law 457 = .ok (.goto 4, 3) := by decide +kernel
theorem dL_law_460 : decode cL_law 460 = .ok (.iconst 0, 1) := by decide +kernel
theorem dL_law_461 : decode cL_law 461 = .ok (.invokevirtual 48, 3) := by decide +kernel
theorem dL_law_464 : decode cL_law 464 = .ok (.if_icmp .eq 759, 3) := by decide +kernel
theorem dL_law_467 : decode cL_law 467 = .ok (.iconst 0, 1) := by decide +kernel
theorem dL_law_468 : decode cL_law 468 = .ok (.ireturn, 1) := by decide +kernel
theorem dL_law_469 : decode cL_law 469 = .ok (.aload_n 1, 1) := by decide +kernel
theorem dL_law_470 : decode cL_law 470 = .ok (.aload_n 0, 1) := by decide +kernel
theorem dL_law_471 : decode cL_law 471 = .ok (.iload_n 3, 1) := by decide +kernel
theorem dL_law_472 : decode cL_law 472 = .ok (.iconst 1, 1) := by decide +kernel
theorem dL_law_473 : decode cL_law 473 = .ok (.iadd, 1) := by decide +kernel
theorem dL_law_474 : decode cL_law 474 = .ok (.iaload, 1) := by decide +kernel
theorem dL_law_475 : decode cL_law 475 = .ok (.aload_n 0, 1) := by decide +kernel
theorem dL_law_476 : decode cL_law 476 = .ok (.iload_n 3, 1) := by decide +kernel
theorem dL_law_477 : decode cL_law 477 = .ok (.iconst 2, 1) := by decide +kernel
theorem dL_law_478 : decode cL_law 478 = .ok (.iadd, 1) := by decide +kernel
theorem dL_law_479 : decode cL_law 479 = .ok (.iaload, 1) := by decide +kernel
theorem dL_law_480 : decode cL_law 480 = .ok (.invokevirtual 49, 3) := by decide +kernel
theorem dL_law_483 : decode cL_law 483 = .ok (.aload_n 2, 1) := by decide +kernel
theorem dL_law_484 : decode cL_law 484 = .ok (.aload_n 0, 1) := by decide +kernel
theorem dL_law_485 : decode cL_law 485 = .ok (.iload_n 3, 1) := by decide +kernel
theorem dL_law_486 : decode cL_law 486 = .ok (.iconst 1, 1) := by decide +kernel
theorem dL_law_487 : decode cL_law 487 = .ok (.iadd, 1) := by decide +kernel
theorem dL_law_488 : decode cL_law 488 = .ok (.iaload, 1) := by decide +kernel
theorem dL_law_489 : decode cL_law 489 = .ok (.aload_n 0, 1) := by decide +kernel
theorem dL_law_490 : decode cL_law 490 = .ok (.iload_n 3, 1) := by decide +kernel
theorem dL_law_491 : decode cL_law 491 = .ok (.iconst 2, 1) := by decide +kernel
theorem dL_law_492 : decode cL_law 492 = .ok (.iadd, 1) := by decide +kernel
theorem dL_law_493 : decode cL_law 493 = .ok (.iaload, 1) := by decide +kernel
theorem dL_law_494 : decode cL_law 494 = .ok (.invokevirtual 52, 3) := by decide +kernel
theorem dL_law_497 : decode cL_law 497 = .ok (.if_icmp .eq 726, 3) := by decide +kernel
theorem dL_law_500 : decode cL_law 500 = .ok (.iconst 0, 1) := by decide +kernel
theorem dL_law_501 : decode cL_law 501 = .ok (.ireturn, 1) := by decide +kernel
theorem dL_law_502 : decode cL_law 502 = .ok (.aload_n 1, 1) := by decide +kernel
theorem dL_law_503 : decode cL_law 503 = .ok (.aload_n 0, 1) := by decide +kernel
theorem dL_law_504 : decode cL_law 504 = .ok (.iload_n 3, 1) := by decide +kernel
theorem dL_law_505 : decode cL_law 505 = .ok (.iconst 1, 1) := by decide +kernel
theorem dL_law_506 : decode cL_law 506 = .ok (.iadd, 1) := by decide +kernel
theorem dL_law_507 : decode cL_law 507 = .ok (.iaload, 1) := by decide +kernel
theorem dL_law_508 : decode cL_law 508 = .ok (.invokevirtual 53, 3) := by decide +kernel
theorem dL_law_511 : decode cL_law 511 = .ok (.aload_n 2, 1) := by decide +kernel
theorem dL_law_512 : decode cL_law 512 = .ok (.aload_n 0, 1) := by decide +kernel
theorem dL_law_513 : decode cL_law 513 = .ok (.iload_n 3, 1) := by decide +kernel
theorem dL_law_514 : decode cL_law 514 = .ok (.iconst 1, 1) := by decide +kernel
theorem dL_law_515 : decode cL_law 515 = .ok (.iadd, 1) := by decide +kernel
theorem dL_law_516 : decode cL_law 516 = .ok (.iaload, 1) := by decide +kernel
theorem dL_law_517 : decode cL_law 517 = .ok (.invokevirtual 56, 3) := by decide +kernel
theorem dL_law_520 : decode cL_law 520 = .ok (.if_icmp .eq 703, 3) := by decide +kernel
theorem dL_law_523 : decode cL_law 523 = .ok (.iconst 0, 1) := by decide +kernel
theorem dL_law_524 : decode cL_law 524 = .ok (.ireturn, 1) := by decide +kernel
theorem dL_law_525 : decode cL_law 525 = .ok (.aload_n 1, 1) := by decide +kernel
theorem dL_law_526 : decode cL_law 526 = .ok (.aload_n 0, 1) := by decide +kernel
theorem dL_law_527 : decode cL_law 527 = .ok (.iload_n 3, 1) := by decide +kernel
theorem dL_law_528 : decode cL_law 528 = .ok (.iconst 1, 1) := by decide +kernel
theorem dL_law_529 : decode cL_law 529 = .ok (.iadd, 1) := by decide +kernel
theorem dL_law_530 : decode cL_law 530 = .ok (.iaload, 1) := by decide +kernel
theorem dL_law_531 : decode cL_law 531 = .ok (.invokevirtual 57, 3) := by decide +kernel
theorem dL_law_534 : decode cL_law 534 = .ok (.aload_n 2, 1) := by decide +kernel
theorem dL_law_535 : decode cL_law 535 = .ok (.aload_n 0, 1) := by decide +kernel
theorem dL_law_536 : decode cL_law 536 = .ok (.iload_n 3, 1) := by decide +kernel
theorem dL_law_537 : decode cL_law 537 = .ok (.iconst 1, 1) := by decide +kernel
theorem dL_law_538 : decode cL_law 538 = .ok (.iadd, 1) := by decide +kernel
theorem dL_law_539 : decode cL_law 539 = .ok (.iaload, 1) := by decide +kernel
theorem dL_law_540 : decode cL_law 540 = .ok (.invokevirtual 60, 3) := by decide +kernel
theorem dL_law_543 : decode cL_law 543 = .ok (.if_icmp .eq 680, 3) := by decide +kernel
theorem dL_law_546 : decode cL_law 546 = .ok (.iconst 0, 1) := by decide +kernel
theorem dL_law_547 : decode cL_law 547 = .ok (.ireturn, 1) := by decide +kernel
theorem dL_law_548 : decode cL_law 548 = .ok (.aload_n 1, 1) := by decide +kernel
theorem dL_law_549 : decode cL_law 549 = .ok (.aload_n 0, 1) := by decide +kernel
theorem dL_law_550 : decode cL_law 550 = .ok (.iload_n 3, 1) := by decide +kernel
theorem dL_law_551 : decode cL_law 551 = .ok (.iconst 1, 1) := by decide +kernel
theorem dL_law_552 : decode cL_law 552 = .ok (.iadd, 1) := by decide +kernel
theorem dL_law_553 : decode cL_law 553 = .ok (.iaload, 1) := by decide +kernel
theorem dL_law_554 : decode cL_law 554 = .ok (.aload_n 0, 1) := by decide +kernel
theorem dL_law_555 : decode cL_law 555 = .ok (.iload_n 3, 1) := by decide +kernel
theorem dL_law_556 : decode cL_law 556 = .ok (.iconst 2, 1) := by decide +kernel
theorem dL_law_557 : decode cL_law 557 = .ok (.iadd, 1) := by decide +kernel
theorem dL_law_558 : decode cL_law 558 = .ok (.iaload, 1) := by decide +kernel
theorem dL_law_559 : decode cL_law 559 = .ok (.aload_n 0, 1) := by decide +kernel
theorem dL_law_560 : decode cL_law 560 = .ok (.iload_n 3, 1) := by decide +kernel
theorem dL_law_561 : decode cL_law 561 = .ok (.iconst 3, 1) := by decide +kernel
theorem dL_law_562 : decode cL_law 562 = .ok (.iadd, 1) := by decide +kernel
theorem dL_law_563 : decode cL_law 563 = .ok (.iaload, 1) := by decide +kernel
theorem dL_law_564 : decode cL_law 564 = .ok (.invokevirtual 61, 3) := by decide +kernel
theorem dL_law_567 : decode cL_law 567 = .ok (.aload_n 2, 1) := by decide +kernel
theorem dL_law_568 : decode cL_law 568 = .ok (.aload_n 0, 1) := by decide +kernel
theorem dL_law_569 : decode cL_law 569 = .ok (.iload_n 3, 1) := by decide +kernel
theorem dL_law_570 : decode cL_law 570 = .ok (.iconst 1, 1) := by decide +kernel
theorem dL_law_571 : decode cL_law 571 = .ok (.iadd, 1) := by decide +kernel
theorem dL_law_572 : decode cL_law 572 = .ok (.iaload, 1) := by decide +kernel
theorem dL_law_573 : decode cL_law 573 = .ok (.aload_n 0, 1) := by decide +kernel
theorem dL_law_574 : decode cL_law 574 = .ok (.iload_n 3, 1) := by decide +kernel
theorem dL_law_575 : decode cL_law 575 = .ok (.iconst 2, 1) := by decide +kernel
theorem dL_law_576 : decode cL_law 576 = .ok (.iadd, 1) := by decide +kernel
theorem dL_law_577 : decode cL_law 577 = .ok (.iaload, 1) := by decide +kernel
theorem dL_law_578 : decode cL_law 578 = .ok (.aload_n 0, 1) := by decide +kernel
theorem dL_law_579 : decode cL_law 579 = .ok (.iload_n 3, 1) := by decide +kernel
theorem dL_law_580 : decode cL_law 580 = .ok (.iconst 3, 1) := by decide +kernel
theorem dL_law_581 : decode cL_law 581 = .ok (.iadd, 1) := by decide +kernel
theorem dL_law_582 : decode cL_law 582 = .ok (.iaload, 1) := by decide +kernel
theorem dL_law_583 : decode cL_law 583 = .ok (.invokevirtual 64, 3) := by decide +kernel
theorem dL_law_586 : decode cL_law 586 = .ok (.if_icmp .eq 637, 3) := by decide +kernel
theorem dL_law_589 : decode cL_law 589 = .ok (.iconst 0, 1) := by decide +kernel
theorem dL_law_590 : decode cL_law 590 = .ok (.ireturn, 1) := by decide +kernel
theorem dL_law_591 : decode cL_law 591 = .ok (.aload_n 1, 1) := by decide +kernel
theorem dL_law_592 : decode cL_law 592 = .ok (.aload_n 0, 1) := by decide +kernel
theorem dL_law_593 : decode cL_law 593 = .ok (.iload_n 3, 1) := by decide +kernel
theorem dL_law_594 : decode cL_law 594 = .ok (.iconst 1, 1) := by decide +kernel
theorem dL_law_595 : decode cL_law 595 = .ok (.iadd, 1) := by decide +kernel
theorem dL_law_596 : decode cL_law 596 = .ok (.iaload, 1) := by decide +kernel
theorem dL_law_597 : decode cL_law 597 = .ok (.invokevirtual 65, 3) := by decide +kernel
theorem dL_law_600 : decode cL_law 600 = .ok (.aload_n 2, 1) := by decide +kernel
theorem dL_law_601 : decode cL_law 601 = .ok (.aload_n 0, 1) := by decide +kernel
theorem dL_law_602 : decode cL_law 602 = .ok (.iload_n 3, 1) := by decide +kernel
theorem dL_law_603 : decode cL_law 603 = .ok (.iconst 1, 1) := by decide +kernel
theorem dL_law_604 : decode cL_law 604 = .ok (.iadd, 1) := by decide +kernel
theorem dL_law_605 : decode cL_law 605 = .ok (.iaload, 1) := by decide +kernel
theorem dL_law_606 : decode cL_law 606 = .ok (.invokevirtual 69, 3) := by decide +kernel
theorem dL_law_609 : decode cL_law 609 = .ok (.lcmp, 1) := by decide +kernel
theorem dL_law_610 : decode cL_law 610 = .ok (.ifCond .eq 613, 3) := by decide +kernel
theorem dL_law_613 : decode cL_law 613 = .ok (.iconst 0, 1) := by decide +kernel
theorem dL_law_614 : decode cL_law 614 = .ok (.ireturn, 1) := by decide +kernel
theorem dL_law_615 : decode cL_law 615 = .ok (.aload_n 1, 1) := by decide +kernel
theorem dL_law_616 : decode cL_law 616 = .ok (.aload_n 0, 1) := by decide +kernel
theorem dL_law_617 : decode cL_law 617 = .ok (.iload_n 3, 1) := by decide +kernel
theorem dL_law_618 : decode cL_law 618 = .ok (.iconst 1, 1) := by decide +kernel
theorem dL_law_619 : decode cL_law 619 = .ok (.iadd, 1) := by decide +kernel
theorem dL_law_620 : decode cL_law 620 = .ok (.iaload, 1) := by decide +kernel
theorem dL_law_621 : decode cL_law 621 = .ok (.invokevirtual 70, 3) := by decide +kernel
theorem dL_law_624 : decode cL_law 624 = .ok (.aload_n 2, 1) := by decide +kernel
theorem dL_law_625 : decode cL_law 625 = .ok (.aload_n 0, 1) := by decide +kernel
theorem dL_law_626 : decode cL_law 626 = .ok (.iload_n 3, 1) := by decide +kernel
theorem dL_law_627 : decode cL_law 627 = .ok (.iconst 1, 1) := by decide +kernel
theorem dL_law_628 : decode cL_law 628 = .ok (.iadd, 1) := by decide +kernel
theorem dL_law_629 : decode cL_law 629 = .ok (.iaload, 1) := by decide +kernel
theorem dL_law_630 : decode cL_law 630 = .ok (.invokevirtual 73, 3) := by decide +kernel
theorem dL_law_633 : decode cL_law 633 = .ok (.if_icmp .eq 590, 3) := by decide +kernel
theorem dL_law_636 : decode cL_law 636 = .ok (.iconst 0, 1) := by decide +kernel
theorem dL_law_637 : decode cL_law 637 = .ok (.ireturn, 1) := by decide +kernel
theorem dL_law_638 : decode cL_law 638 = .ok (.aload_n 1, 1) := by decide +kernel
theorem dL_law_639 : decode cL_law 639 = .ok (.aload_n 0, 1) := by decide +kernel
theorem dL_law_640 : decode cL_law 640 = .ok (.iload_n 3, 1) := by decide +kernel
theorem dL_law_641 : decode cL_law 641 = .ok (.iconst 1, 1) := by decide +kernel
theorem dL_law_642 : decode cL_law 642 = .ok (.iadd, 1) := by decide +kernel
theorem dL_law_643 : decode cL_law 643 = .ok (.iaload, 1) := by decide +kernel
theorem dL_law_644 : decode cL_law 644 = .ok (.aload_n 0, 1) := by decide +kernel
theorem dL_law_645 : decode cL_law 645 = .ok (.iload_n 3, 1) := by decide +kernel
theorem dL_law_646 : decode cL_law 646 = .ok (.iconst 2, 1) := by decide +kernel
theorem dL_law_647 : decode cL_law 647 = .ok (.iadd, 1) := by decide +kernel
theorem dL_law_648 : decode cL_law 648 = .ok (.iaload, 1) := by decide +kernel
theorem dL_law_649 : decode cL_law 649 = .ok (.invokevirtual 74, 3) := by decide +kernel
theorem dL_law_652 : decode cL_law 652 = .ok (.aload_n 2, 1) := by decide +kernel
theorem dL_law_653 : decode cL_law 653 = .ok (.aload_n 0, 1) := by decide +kernel
theorem dL_law_654 : decode cL_law 654 = .ok (.iload_n 3, 1) := by decide +kernel
theorem dL_law_655 : decode cL_law 655 = .ok (.iconst 1, 1) := by decide +kernel
theorem dL_law_656 : decode cL_law 656 = .ok (.iadd, 1) := by decide +kernel
theorem dL_law_657 : decode cL_law 657 = .ok (.iaload, 1) := by decide +kernel
theorem dL_law_658 : decode cL_law 658 = .ok (.aload_n 0, 1) := by decide +kernel
theorem dL_law_659 : decode cL_law 659 = .ok (.iload_n 3, 1) := by decide +kernel
theorem dL_law_660 : decode cL_law 660 = .ok (.iconst 2, 1) := by decide +kernel
theorem dL_law_661 : decode cL_law 661 = .ok (.iadd, 1) := by decide +kernel
theorem dL_law_662 : decode cL_law 662 = .ok (.iaload, 1) := by decide +kernel
theorem dL_law_663 : decode cL_law 663 = .ok (.invokevirtual 78, 3) := by decide +kernel
theorem dL_law_666 : decode cL_law 666 = .ok (.lcmp, 1) := by decide +kernel
theorem dL_law_667 : decode cL_law 667 = .ok (.ifCond .eq 556, 3) := by decide +kernel
theorem dL_law_670 : decode cL_law 670 = .ok (.iconst 0, 1) := by decide +kernel
theorem dL_law_671 : decode cL_law 671 = .ok (.ireturn, 1) := by decide +kernel
theorem dL_law_672 : decode cL_law 672 = .ok (.aload_n 1, 1) := by decide +kernel
theorem dL_law_673 : decode cL_law 673 = .ok (.aload_n 0, 1) := by decide +kernel
theorem dL_law_674 : decode cL_law 674 = .ok (.iload_n 3, 1) := by decide +kernel
theorem dL_law_675 : decode cL_law 675 = .ok (.iconst 1, 1) := by decide +kernel
theorem dL_law_676 : decode cL_law 676 = .ok (.iadd, 1) := by decide +kernel
theorem dL_law_677 : decode cL_law 677 = .ok (.iaload, 1) := by decide +kernel
theorem dL_law_678 : decode cL_law 678 = .ok (.aload_n 0, 1) := by decide +kernel
theorem dL_law_679 : decode cL_law 679 = .ok (.iload_n 3, 1) := by decide +kernel
theorem dL_law_680 : decode cL_law 680 = .ok (.iconst 2, 1) := by decide +kernel
theorem dL_law_681 : decode cL_law 681 = .ok (.iadd, 1) := by decide +kernel
theorem dL_law_682 : decode cL_law 682 = .ok (.iaload, 1) := by decide +kernel
theorem dL_law_683 : decode cL_law 683 = .ok (.invokevirtual 79, 3) := by decide +kernel
theorem dL_law_686 : decode cL_law 686 = .ok (.aload_n 2, 1) := by decide +kernel
theorem dL_law_687 : decode cL_law 687 = .ok (.aload_n 0, 1) := by decide +kernel
theorem dL_law_688 : decode cL_law 688 = .ok (.iload_n 3, 1) := by decide +kernel
theorem dL_law_689 : decode cL_law 689 = .ok (.iconst 1, 1) := by decide +kernel
theorem dL_law_690 : decode cL_law 690 = .ok (.iadd, 1) := by decide +kernel
theorem dL_law_691 : decode cL_law 691 = .ok (.iaload, 1) := by decide +kernel
theorem dL_law_692 : decode cL_law 692 = .ok (.aload_n 0, 1) := by decide +kernel
theorem dL_law_693 : decode cL_law 693 = .ok (.iload_n 3, 1) := by decide +kernel
theorem dL_law_694 : decode cL_law 694 = .ok (.iconst 2, 1) := by decide +kernel
theorem dL_law_695 : decode cL_law 695 = .ok (.iadd, 1) := by decide +kernel
theorem dL_law_696 : decode cL_law 696 = .ok (.iaload, 1) := by decide +kernel
theorem dL_law_697 : decode cL_law 697 = .ok (.invokevirtual 82, 3) := by decide +kernel
theorem dL_law_700 : decode cL_law 700 = .ok (.lcmp, 1) := by decide +kernel
theorem dL_law_701 : decode cL_law 701 = .ok (.ifCond .eq 522, 3) := by decide +kernel
theorem dL_law_704 : decode cL_law 704 = .ok (.iconst 0, 1) := by decide +kernel
theorem dL_law_705 : decode cL_law 705 = .ok (.ireturn, 1) := by decide +kernel
theorem dL_law_706 : decode cL_law 706 = .ok (.aload_n 1, 1) := by decide +kernel
theorem dL_law_707 : decode cL_law 707 = .ok (.aload_n 0, 1) := by decide +kernel
theorem dL_law_708 : decode cL_law 708 = .ok (.iload_n 3, 1) := by decide +kernel
theorem dL_law_709 : decode cL_law 709 = .ok (.iconst 1, 1) := by decide +kernel
theorem dL_law_710 : decode cL_law 710 = .ok (.iadd, 1) := by decide +kernel
theorem dL_law_711 : decode cL_law 711 = .ok (.iaload, 1) := by decide +kernel
theorem dL_law_712 : decode cL_law 712 = .ok (.invokevirtual 83, 3) := by decide +kernel
theorem dL_law_715 : decode cL_law 715 = .ok (.aload_n 2, 1) := by decide +kernel
theorem dL_law_716 : decode cL_law 716 = .ok (.aload_n 0, 1) := by decide +kernel
theorem dL_law_717 : decode cL_law 717 = .ok (.iload_n 3, 1) := by decide +kernel
theorem dL_law_718 : decode cL_law 718 = .ok (.iconst 1, 1) := by decide +kernel
theorem dL_law_719 : decode cL_law 719 = .ok (.iadd, 1) := by decide +kernel
theorem dL_law_720 : decode cL_law 720 = .ok (.iaload, 1) := by decide +kernel
theorem dL_law_721 : decode cL_law 721 = .ok (.invokevirtual 86, 3) := by decide +kernel
theorem dL_law_724 : decode cL_law 724 = .ok (.if_icmp .eq 499, 3) := by decide +kernel
theorem dL_law_727 : decode cL_law 727 = .ok (.iconst 0, 1) := by decide +kernel
theorem dL_law_728 : decode cL_law 728 = .ok (.ireturn, 1) := by decide +kernel
theorem dL_law_729 : decode cL_law 729 = .ok (.aload_n 1, 1) := by decide +kernel
theorem dL_law_730 : decode cL_law 730 = .ok (.invokevirtual 87, 3) := by decide +kernel
theorem dL_law_733 : decode cL_law 733 = .ok (.aload_n 2, 1) := by decide +kernel
theorem dL_law_734 : decode cL_law 734 = .ok (.invokevirtual 91, 3) := by decide +kernel
theorem dL_law_737 : decode cL_law 737 = .ok (.if_icmp .eq 486, 3) := by decide +kernel
theorem dL_law_740 : decode cL_law 740 = .ok (.iconst 0, 1) := by decide +kernel
theorem dL_law_741 : decode cL_law 741 = .ok (.ireturn, 1) := by decide +kernel
theorem dL_law_742 : decode cL_law 742 = .ok (.aload_n 1, 1) := by decide +kernel
theorem dL_law_743 : decode cL_law 743 = .ok (.aload_n 0, 1) := by decide +kernel
theorem dL_law_744 : decode cL_law 744 = .ok (.iload_n 3, 1) := by decide +kernel
theorem dL_law_745 : decode cL_law 745 = .ok (.iconst 1, 1) := by decide +kernel
theorem dL_law_746 : decode cL_law 746 = .ok (.iadd, 1) := by decide +kernel
theorem dL_law_747 : decode cL_law 747 = .ok (.iaload, 1) := by decide +kernel
theorem dL_law_748 : decode cL_law 748 = .ok (.invokevirtual 92, 3) := by decide +kernel
theorem dL_law_751 : decode cL_law 751 = .ok (.aload_n 2, 1) := by decide +kernel
theorem dL_law_752 : decode cL_law 752 = .ok (.aload_n 0, 1) := by decide +kernel
theorem dL_law_753 : decode cL_law 753 = .ok (.iload_n 3, 1) := by decide +kernel
theorem dL_law_754 : decode cL_law 754 = .ok (.iconst 1, 1) := by decide +kernel
theorem dL_law_755 : decode cL_law 755 = .ok (.iadd, 1) := by decide +kernel
theorem dL_law_756 : decode cL_law 756 = .ok (.iaload, 1) := by decide +kernel
theorem dL_law_757 : decode cL_law 757 = .ok (.invokevirtual 95, 3) := by decide +kernel
theorem dL_law_760 : decode cL_law 760 = .ok (.if_icmp .eq 463, 3) := by decide +kernel
theorem dL_law_763 : decode cL_law 763 = .ok (.iconst 0, 1) := by decide +kernel
theorem dL_law_764 : decode cL_law 764 = .ok (.ireturn, 1) := by decide +kernel
theorem dL_law_765 : decode cL_law 765 = .ok (.aload_n 1, 1) := by decide +kernel
theorem dL_law_766 : decode cL_law 766 = .ok (.aload_n 0, 1) := by decide +kernel
theorem dL_law_767 : decode cL_law 767 = .ok (.iload_n 3, 1) := by decide +kernel
theorem dL_law_768 : decode cL_law 768 = .ok (.iconst 1, 1) := by decide +kernel
theorem dL_law_769 : decode cL_law 769 = .ok (.iadd, 1) := by decide +kernel
theorem dL_law_770 : decode cL_law 770 = .ok (.iaload, 1) := by decide +kernel
theorem dL_law_771 : decode cL_law 771 = .ok (.invokevirtual 96, 3) := by decide +kernel
theorem dL_law_774 : decode cL_law 774 = .ok (.aload_n 2, 1) := by decide +kernel
theorem dL_law_775 : decode cL_law 775 = .ok (.aload_n 0, 1) := by decide +kernel
theorem dL_law_776 : decode cL_law 776 = .ok (.iload_n 3, 1) := by decide +kernel
theorem dL_law_777 : decode cL_law 777 = .ok (.iconst 1, 1) := by decide +kernel
theorem dL_law_778 : decode cL_law 778 = .ok (.iadd, 1) := by decide +kernel
theorem dL_law_779 : decode cL_law 779 = .ok (.iaload, 1) := by decide +kernel
theorem dL_law_780 : decode cL_law 780 = .ok (.invokevirtual 99, 3) := by decide +kernel
theorem dL_law_783 : decode cL_law 783 = .ok (.lcmp, 1) := by decide +kernel
theorem dL_law_784 : decode cL_law 784 = .ok (.ifCond .eq 439, 3) := by decide +kernel
theorem dL_law_787 : decode cL_law 787 = .ok (.iconst 0, 1) := by decide +kernel
theorem dL_law_788 : decode cL_law 788 = .ok (.ireturn, 1) := by decide +kernel
theorem dL_law_789 : decode cL_law 789 = .ok (.aload_n 1, 1) := by decide +kernel
theorem dL_law_790 : decode cL_law 790 = .ok (.invokevirtual 100, 3) := by decide +kernel
theorem dL_law_793 : decode cL_law 793 = .ok (.aload_n 2, 1) := by decide +kernel
theorem dL_law_794 : decode cL_law 794 = .ok (.invokevirtual 104, 3) := by decide +kernel
theorem dL_law_797 : decode cL_law 797 = .ok (.lcmp, 1) := by decide +kernel
theorem dL_law_798 : decode cL_law 798 = .ok (.ifCond .eq 425, 3) := by decide +kernel
theorem dL_law_801 : decode cL_law 801 = .ok (.iconst 0, 1) := by decide +kernel
theorem dL_law_802 : decode cL_law 802 = .ok (.ireturn, 1) := by decide +kernel
theorem dL_law_803 : decode cL_law 803 = .ok (.aload_n 1, 1) := by decide +kernel
theorem dL_law_804 : decode cL_law 804 = .ok (.invokevirtual 105, 3) := by decide +kernel
theorem dL_law_807 : decode cL_law 807 = .ok (.aload_n 2, 1) := by decide +kernel
theorem dL_law_808 : decode cL_law 808 = .ok (.invokevirtual 108, 3) := by decide +kernel
theorem dL_law_811 : decode cL_law 811 = .ok (.if_icmp .eq 412, 3) := by decide +kernel
theorem dL_law_814 : decode cL_law 814 = .ok (.iconst 0, 1) := by decide +kernel
theorem dL_law_815 : decode cL_law 815 = .ok (.ireturn, 1) := by decide +kernel
theorem dL_law_816 : decode cL_law 816 = .ok (.aload_n 1, 1) := by decide +kernel
theorem dL_law_817 : decode cL_law 817 = .ok (.aload_n 0, 1) := by decide +kernel
theorem dL_law_818 : decode cL_law 818 = .ok (.iload_n 3, 1) := by decide +kernel
theorem dL_law_819 : decode cL_law 819 = .ok (.iconst 1, 1) := by decide +kernel
theorem dL_law_820 : decode cL_law 820 = .ok (.iadd, 1) := by decide +kernel
theorem dL_law_821 : decode cL_law 821 = .ok (.iaload, 1) := by decide +kernel
theorem dL_law_822 : decode cL_law 822 = .ok (.invokevirtual 109, 3) := by decide +kernel
theorem dL_law_825 : decode cL_law 825 = .ok (.aload_n 2, 1) := by decide +kernel
theorem dL_law_826 : decode cL_law 826 = .ok (.aload_n 0, 1) := by decide +kernel
theorem dL_law_827 : decode cL_law 827 = .ok (.iload_n 3, 1) := by decide +kernel
theorem dL_law_828 : decode cL_law 828 = .ok (.iconst 1, 1) := by decide +kernel
theorem dL_law_829 : decode cL_law 829 = .ok (.iadd, 1) := by decide +kernel
theorem dL_law_830 : decode cL_law 830 = .ok (.iaload, 1) := by decide +kernel
theorem dL_law_831 : decode cL_law 831 = .ok (.invokevirtual 112, 3) := by decide +kernel
theorem dL_law_834 : decode cL_law 834 = .ok (.if_icmp .eq 389, 3) := by decide +kernel
theorem dL_law_837 : decode cL_law 837 = .ok (.iconst 0, 1) := by decide +kernel
theorem dL_law_838 : decode cL_law 838 = .ok (.ireturn, 1) := by decide +kernel
theorem dL_law_839 : decode cL_law 839 = .ok (.aload_n 1, 1) := by decide +kernel
theorem dL_law_840 : decode cL_law 840 = .ok (.aload_n 0, 1) := by decide +kernel
theorem dL_law_841 : decode cL_law 841 = .ok (.iload_n 3, 1) := by decide +kernel
theorem dL_law_842 : decode cL_law 842 = .ok (.iconst 1, 1) := by decide +kernel
theorem dL_law_843 : decode cL_law 843 = .ok (.iadd, 1) := by decide +kernel
theorem dL_law_844 : decode cL_law 844 = .ok (.iaload, 1) := by decide +kernel
theorem dL_law_845 : decode cL_law 845 = .ok (.aload_n 0, 1) := by decide +kernel
theorem dL_law_846 : decode cL_law 846 = .ok (.iload_n 3, 1) := by decide +kernel
theorem dL_law_847 : decode cL_law 847 = .ok (.iconst 2, 1) := by decide +kernel
theorem dL_law_848 : decode cL_law 848 = .ok (.iadd, 1) := by decide +kernel
theorem dL_law_849 : decode cL_law 849 = .ok (.iaload, 1) := by decide +kernel
theorem dL_law_850 : decode cL_law 850 = .ok (.invokevirtual 113, 3) := by decide +kernel
theorem dL_law_853 : decode cL_law 853 = .ok (.aload_n 2, 1) := by decide +kernel
theorem dL_law_854 : decode cL_law 854 = .ok (.aload_n 0, 1) := by decide +kernel
theorem dL_law_855 : decode cL_law 855 = .ok (.iload_n 3, 1) := by decide +kernel
theorem dL_law_856 : decode cL_law 856 = .ok (.iconst 1, 1) := by decide +kernel
theorem dL_law_857 : decode cL_law 857 = .ok (.iadd, 1) := by decide +kernel
theorem dL_law_858 : decode cL_law 858 = .ok (.iaload, 1) := by decide +kernel
theorem dL_law_859 : decode cL_law 859 = .ok (.aload_n 0, 1) := by decide +kernel
theorem dL_law_860 : decode cL_law 860 = .ok (.iload_n 3, 1) := by decide +kernel
theorem dL_law_861 : decode cL_law 861 = .ok (.iconst 2, 1) := by decide +kernel
theorem dL_law_862 : decode cL_law 862 = .ok (.iadd, 1) := by decide +kernel
theorem dL_law_863 : decode cL_law 863 = .ok (.iaload, 1) := by decide +kernel
theorem dL_law_864 : decode cL_law 864 = .ok (.invokevirtual 116, 3) := by decide +kernel
theorem dL_law_867 : decode cL_law 867 = .ok (.if_icmp .eq 356, 3) := by decide +kernel
theorem dL_law_870 : decode cL_law 870 = .ok (.iconst 0, 1) := by decide +kernel
theorem dL_law_871 : decode cL_law 871 = .ok (.ireturn, 1) := by decide +kernel
theorem dL_law_872 : decode cL_law 872 = .ok (.aload_n 1, 1) := by decide +kernel
theorem dL_law_873 : decode cL_law 873 = .ok (.aload_n 0, 1) := by decide +kernel
theorem dL_law_874 : decode cL_law 874 = .ok (.iload_n 3, 1) := by decide +kernel
theorem dL_law_875 : decode cL_law 875 = .ok (.iconst 1, 1) := by decide +kernel
theorem dL_law_876 : decode cL_law 876 = .ok (.iadd, 1) := by decide +kernel
theorem dL_law_877 : decode cL_law 877 = .ok (.iaload, 1) := by decide +kernel
theorem dL_law_878 : decode cL_law 878 = .ok (.aload_n 0, 1) := by decide +kernel
theorem dL_law_879 : decode cL_law 879 = .ok (.iload_n 3, 1) := by decide +kernel
theorem dL_law_880 : decode cL_law 880 = .ok (.iconst 2, 1) := by decide +kernel
theorem dL_law_881 : decode cL_law 881 = .ok (.iadd, 1) := by decide +kernel
theorem dL_law_882 : decode cL_law 882 = .ok (.iaload, 1) := by decide +kernel
theorem dL_law_883 : decode cL_law 883 = .ok (.invokevirtual 117, 3) := by decide +kernel
theorem dL_law_886 : decode cL_law 886 = .ok (.aload_n 2, 1) := by decide +kernel
theorem dL_law_887 : decode cL_law 887 = .ok (.aload_n 0, 1) := by decide +kernel
theorem dL_law_888 : decode cL_law 888 = .ok (.iload_n 3, 1) := by decide +kernel
theorem dL_law_889 : decode cL_law 889 = .ok (.iconst 1, 1) := by decide +kernel
theorem dL_law_890 : decode cL_law 890 = .ok (.iadd, 1) := by decide +kernel
theorem dL_law_891 : decode cL_law 891 = .ok (.iaload, 1) := by decide +kernel
theorem dL_law_892 : decode cL_law 892 = .ok (.aload_n 0, 1) := by decide +kernel
theorem dL_law_893 : decode cL_law 893 = .ok (.iload_n 3, 1) := by decide +kernel
theorem dL_law_894 : decode cL_law 894 = .ok (.iconst 2, 1) := by decide +kernel
theorem dL_law_895 : decode cL_law 895 = .ok (.iadd, 1) := by decide +kernel
theorem dL_law_896 : decode cL_law 896 = .ok (.iaload, 1) := by decide +kernel
theorem dL_law_897 : decode cL_law 897 = .ok (.invokevirtual 120, 3) := by decide +kernel
theorem dL_law_900 : decode cL_law 900 = .ok (.if_icmp .eq 323, 3) := by decide +kernel
theorem dL_law_903 : decode cL_law 903 = .ok (.iconst 0, 1) := by decide +kernel
theorem dL_law_904 : decode cL_law 904 = .ok (.ireturn, 1) := by decide +kernel
theorem dL_law_905 : decode cL_law 905 = .ok (.aload_n 1, 1) := by decide +kernel
theorem dL_law_906 : decode cL_law 906 = .ok (.aload_n 0, 1) := by decide +kernel
theorem dL_law_907 : decode cL_law 907 = .ok (.iload_n 3, 1) := by decide +kernel
theorem dL_law_908 : decode cL_law 908 = .ok (.iconst 1, 1) := by decide +kernel
theorem dL_law_909 : decode cL_law 909 = .ok (.iadd, 1) := by decide +kernel
theorem dL_law_910 : decode cL_law 910 = .ok (.iaload, 1) := by decide +kernel
theorem dL_law_911 : decode cL_law 911 = .ok (.invokevirtual 121, 3) := by decide +kernel
theorem dL_law_914 : decode cL_law 914 = .ok (.aload_n 2, 1) := by decide +kernel
theorem dL_law_915 : decode cL_law 915 = .ok (.aload_n 0, 1) := by decide +kernel
theorem dL_law_916 : decode cL_law 916 = .ok (.iload_n 3, 1) := by decide +kernel
theorem dL_law_917 : decode cL_law 917 = .ok (.iconst 1, 1) := by decide +kernel
theorem dL_law_918 : decode cL_law 918 = .ok (.iadd, 1) := by decide +kernel
theorem dL_law_919 : decode cL_law 919 = .ok (.iaload, 1) := by decide +kernel
theorem dL_law_920 : decode cL_law 920 = .ok (.invokevirtual 124, 3) := by decide +kernel
theorem dL_law_923 : decode cL_law 923 = .ok (.if_icmp .eq 300, 3) := by decide +kernel
theorem dL_law_926 : decode cL_law 926 = .ok (.iconst 0, 1) := by decide +kernel
theorem dL_law_927 : decode cL_law 927 = .ok (.ireturn, 1) := by decide +kernel
theorem dL_law_928 : decode cL_law 928 = .ok (.aload_n 1, 1) := by decide +kernel
theorem dL_law_929 : decode cL_law 929 = .ok (.aload_n 0, 1) := by decide +kernel
theorem dL_law_930 : decode cL_law 930 = .ok (.iload_n 3, 1) := by decide +kernel
theorem dL_law_931 : decode cL_law 931 = .ok (.iconst 1, 1) := by decide +kernel
theorem dL_law_932 : decode cL_law 932 = .ok (.iadd, 1) := by decide +kernel
theorem dL_law_933 : decode cL_law 933 = .ok (.iaload, 1) := by decide +kernel
theorem dL_law_934 : decode cL_law 934 = .ok (.aload_n 0, 1) := by decide +kernel
theorem dL_law_935 : decode cL_law 935 = .ok (.iload_n 3, 1) := by decide +kernel
theorem dL_law_936 : decode cL_law 936 = .ok (.iconst 2, 1) := by decide +kernel
theorem dL_law_937 : decode cL_law 937 = .ok (.iadd, 1) := by decide +kernel
theorem dL_law_938 : decode cL_law 938 = .ok (.iaload, 1) := by decide +kernel
theorem dL_law_939 : decode cL_law 939 = .ok (.invokevirtual 125, 3) := by decide +kernel
theorem dL_law_942 : decode cL_law 942 = .ok (.aload_n 2, 1) := by decide +kernel
theorem dL_law_943 : decode cL_law 943 = .ok (.aload_n 0, 1) := by decide +kernel
theorem dL_law_944 : decode cL_law 944 = .ok (.iload_n 3, 1) := by decide +kernel
theorem dL_law_945 : decode cL_law 945 = .ok (.iconst 1, 1) := by decide +kernel
theorem dL_law_946 : decode cL_law 946 = .ok (.iadd, 1) := by decide +kernel
theorem dL_law_947 : decode cL_law 947 = .ok (.iaload, 1) := by decide +kernel
theorem dL_law_948 : decode cL_law 948 = .ok (.aload_n 0, 1) := by decide +kernel
theorem dL_law_949 : decode cL_law 949 = .ok (.iload_n 3, 1) := by decide +kernel
theorem dL_law_950 : decode cL_law 950 = .ok (.iconst 2, 1) := by decide +kernel
theorem dL_law_951 : decode cL_law 951 = .ok (.iadd, 1) := by decide +kernel
theorem dL_law_952 : decode cL_law 952 = .ok (.iaload, 1) := by decide +kernel
theorem dL_law_953 : decode cL_law 953 = .ok (.invokevirtual 128, 3) := by decide +kernel
theorem dL_law_956 : decode cL_law 956 = .ok (.lcmp, 1) := by decide +kernel
theorem dL_law_957 : decode cL_law 957 = .ok (.ifCond .eq 266, 3) := by decide +kernel
theorem dL_law_960 : decode cL_law 960 = .ok (.iconst 0, 1) := by decide +kernel
theorem dL_law_961 : decode cL_law 961 = .ok (.ireturn, 1) := by decide +kernel
theorem dL_law_962 : decode cL_law 962 = .ok (.aload_n 1, 1) := by decide +kernel
theorem dL_law_963 : decode cL_law 963 = .ok (.invokevirtual 129, 3) := by decide +kernel
theorem dL_law_966 : decode cL_law 966 = .ok (.aload_n 2, 1) := by decide +kernel
theorem dL_law_967 : decode cL_law 967 = .ok (.invokevirtual 132, 3) := by decide +kernel
theorem dL_law_970 : decode cL_law 970 = .ok (.lcmp, 1) := by decide +kernel
theorem dL_law_971 : decode cL_law 971 = .ok (.ifCond .eq 252, 3) := by decide +kernel
theorem dL_law_974 : decode cL_law 974 = .ok (.iconst 0, 1) := by decide +kernel
theorem dL_law_975 : decode cL_law 975 = .ok (.ireturn, 1) := by decide +kernel
theorem dL_law_976 : decode cL_law 976 = .ok (.aload_n 1, 1) := by decide +kernel
theorem dL_law_977 : decode cL_law 977 = .ok (.aload_n 0, 1) := by decide +kernel
theorem dL_law_978 : decode cL_law 978 = .ok (.iload_n 3, 1) := by decide +kernel
theorem dL_law_979 : decode cL_law 979 = .ok (.iconst 1, 1) := by decide +kernel
theorem dL_law_980 : decode cL_law 980 = .ok (.iadd, 1) := by decide +kernel
theorem dL_law_981 : decode cL_law 981 = .ok (.iaload, 1) := by decide +kernel
theorem dL_law_982 : decode cL_law 982 = .ok (.i2l, 1) := by decide +kernel
theorem dL_law_983 : decode cL_law 983 = .ok (.bipush 32, 2) := by decide +kernel
theorem dL_law_985 : decode cL_law 985 = .ok (.lshl, 1) := by decide +kernel
theorem dL_law_986 : decode cL_law 986 = .ok (.aload_n 0, 1) := by decide +kernel
theorem dL_law_987 : decode cL_law 987 = .ok (.iload_n 3, 1) := by decide +kernel
theorem dL_law_988 : decode cL_law 988 = .ok (.iconst 2, 1) := by decide +kernel
theorem dL_law_989 : decode cL_law 989 = .ok (.iadd, 1) := by decide +kernel
theorem dL_law_990 : decode cL_law 990 = .ok (.iaload, 1) := by decide +kernel
theorem dL_law_991 : decode cL_law 991 = .ok (.i2l, 1) := by decide +kernel
theorem dL_law_992 : decode cL_law 992 = .ok (.ldc2_w 28, 3) := by decide +kernel
theorem dL_law_995 : decode cL_law 995 = .ok (.land, 1) := by decide +kernel
theorem dL_law_996 : decode cL_law 996 = .ok (.lor, 1) := by decide +kernel
theorem dL_law_997 : decode cL_law 997 = .ok (.invokevirtual 133, 3) := by decide +kernel
theorem dL_law_1000 : decode cL_law 1000 = .ok (.aload_n 2, 1) := by decide +kernel
theorem dL_law_1001 : decode cL_law 1001 = .ok (.aload_n 0, 1) := by decide +kernel
theorem dL_law_1002 : decode cL_law 1002 = .ok (.iload_n 3, 1) := by decide +kernel
theorem dL_law_1003 : decode cL_law 1003 = .ok (.iconst 1, 1) := by decide +kernel
theorem dL_law_1004 : decode cL_law 1004 = .ok (.iadd, 1) := by decide +kernel
theorem dL_law_1005 : decode cL_law 1005 = .ok (.iaload, 1) := by decide +kernel
theorem dL_law_1006 : decode cL_law 1006 = .ok (.i2l, 1) := by decide +kernel
theorem dL_law_1007 : decode cL_law 1007 = .ok (.bipush 32, 2) := by decide +kernel
theorem dL_law_1009 : decode cL_law 1009 = .ok (.lshl, 1) := by decide +kernel
theorem dL_law_1010 : decode cL_law 1010 = .ok (.aload_n 0, 1) := by decide +kernel
theorem dL_law_1011 : decode cL_law 1011 = .ok (.iload_n 3, 1) := by decide +kernel
theorem dL_law_1012 : decode cL_law 1012 = .ok (.iconst 2, 1) := by decide +kernel
theorem dL_law_1013 : decode cL_law 1013 = .ok (.iadd, 1) := by decide +kernel
theorem dL_law_1014 : decode cL_law 1014 = .ok (.iaload, 1) := by decide +kernel
theorem dL_law_1015 : decode cL_law 1015 = .ok (.i2l, 1) := by decide +kernel
theorem dL_law_1016 : decode cL_law 1016 = .ok (.ldc2_w 28, 3) := by decide +kernel
theorem dL_law_1019 : decode cL_law 1019 = .ok (.land, 1) := by decide +kernel
theorem dL_law_1020 : decode cL_law 1020 = .ok (.lor, 1) := by decide +kernel
theorem dL_law_1021 : decode cL_law 1021 = .ok (.invokevirtual 137, 3) := by decide +kernel
theorem dL_law_1024 : decode cL_law 1024 = .ok (.if_icmp .eq 199, 3) := by decide +kernel
theorem dL_law_1027 : decode cL_law 1027 = .ok (.iconst 0, 1) := by decide +kernel
theorem dL_law_1028 : decode cL_law 1028 = .ok (.ireturn, 1) := by decide +kernel
theorem dL_law_1029 : decode cL_law 1029 = .ok (.aload_n 1, 1) := by decide +kernel
theorem dL_law_1030 : decode cL_law 1030 = .ok (.aload_n 0, 1) := by decide +kernel
theorem dL_law_1031 : decode cL_law 1031 = .ok (.iload_n 3, 1) := by decide +kernel
theorem dL_law_1032 : decode cL_law 1032 = .ok (.iconst 1, 1) := by decide +kernel
theorem dL_law_1033 : decode cL_law 1033 = .ok (.iadd, 1) := by decide +kernel
theorem dL_law_1034 : decode cL_law 1034 = .ok (.iaload, 1) := by decide +kernel
theorem dL_law_1035 : decode cL_law 1035 = .ok (.invokevirtual 138, 3) := by decide +kernel
theorem dL_law_1038 : decode cL_law 1038 = .ok (.aload_n 2, 1) := by decide +kernel
theorem dL_law_1039 : decode cL_law 1039 = .ok (.aload_n 0, 1) := by decide +kernel
theorem dL_law_1040 : decode cL_law 1040 = .ok (.iload_n 3, 1) := by decide +kernel
theorem dL_law_1041 : decode cL_law 1041 = .ok (.iconst 1, 1) := by decide +kernel
theorem dL_law_1042 : decode cL_law 1042 = .ok (.iadd, 1) := by decide +kernel
theorem dL_law_1043 : decode cL_law 1043 = .ok (.iaload, 1) := by decide +kernel
theorem dL_law_1044 : decode cL_law 1044 = .ok (.invokevirtual 141, 3) := by decide +kernel
theorem dL_law_1047 : decode cL_law 1047 = .ok (.if_icmp .eq 176, 3) := by decide +kernel
theorem dL_law_1050 : decode cL_law 1050 = .ok (.iconst 0, 1) := by decide +kernel
theorem dL_law_1051 : decode cL_law 1051 = .ok (.ireturn, 1) := by decide +kernel
theorem dL_law_1052 : decode cL_law 1052 = .ok (.aload_n 1, 1) := by decide +kernel
theorem dL_law_1053 : decode cL_law 1053 = .ok (.aload_n 0, 1) := by decide +kernel
theorem dL_law_1054 : decode cL_law 1054 = .ok (.iload_n 3, 1) := by decide +kernel
theorem dL_law_1055 : decode cL_law 1055 = .ok (.iconst 1, 1) := by decide +kernel
theorem dL_law_1056 : decode cL_law 1056 = .ok (.iadd, 1) := by decide +kernel
theorem dL_law_1057 : decode cL_law 1057 = .ok (.iaload, 1) := by decide +kernel
theorem dL_law_1058 : decode cL_law 1058 = .ok (.invokevirtual 142, 3) := by decide +kernel
theorem dL_law_1061 : decode cL_law 1061 = .ok (.aload_n 2, 1) := by decide +kernel
theorem dL_law_1062 : decode cL_law 1062 = .ok (.aload_n 0, 1) := by decide +kernel
theorem dL_law_1063 : decode cL_law 1063 = .ok (.iload_n 3, 1) := by decide +kernel
theorem dL_law_1064 : decode cL_law 1064 = .ok (.iconst 1, 1) := by decide +kernel
theorem dL_law_1065 : decode cL_law 1065 = .ok (.iadd, 1) := by decide +kernel
theorem dL_law_1066 : decode cL_law 1066 = .ok (.iaload, 1) := by decide +kernel
theorem dL_law_1067 : decode cL_law 1067 = .ok (.invokevirtual 145, 3) := by decide +kernel
theorem dL_law_1070 : decode cL_law 1070 = .ok (.if_icmp .eq 153, 3) := by decide +kernel
theorem dL_law_1073 : decode cL_law 1073 = .ok (.iconst 0, 1) := by decide +kernel
theorem dL_law_1074 : decode cL_law 1074 = .ok (.ireturn, 1) := by decide +kernel
theorem dL_law_1075 : decode cL_law 1075 = .ok (.aload_n 1, 1) := by decide +kernel
theorem dL_law_1076 : decode cL_law 1076 = .ok (.aload_n 0, 1) := by decide +kernel
theorem dL_law_1077 : decode cL_law 1077 = .ok (.iload_n 3, 1) := by decide +kernel
theorem dL_law_1078 : decode cL_law 1078 = .ok (.iconst 1, 1) := by decide +kernel
theorem dL_law_1079 : decode cL_law 1079 = .ok (.iadd, 1) := by decide +kernel
theorem dL_law_1080 : decode cL_law 1080 = .ok (.iaload, 1) := by decide +kernel
theorem dL_law_1081 : decode cL_law 1081 = .ok (.invokevirtual 146, 3) := by decide +kernel
theorem dL_law_1084 : decode cL_law 1084 = .ok (.aload_n 2, 1) := by decide +kernel
theorem dL_law_1085 : decode cL_law 1085 = .ok (.aload_n 0, 1) := by decide +kernel
theorem dL_law_1086 : decode cL_law 1086 = .ok (.iload_n 3, 1) := by decide +kernel
theorem dL_law_1087 : decode cL_law 1087 = .ok (.iconst 1, 1) := by decide +kernel
theorem dL_law_1088 : decode cL_law 1088 = .ok (.iadd, 1) := by decide +kernel
theorem dL_law_1089 : decode cL_law 1089 = .ok (.iaload, 1) := by decide +kernel
theorem dL_law_1090 : decode cL_law 1090 = .ok (.invokevirtual 149, 3) := by decide +kernel
theorem dL_law_1093 : decode cL_law 1093 = .ok (.if_icmp .eq 130, 3) := by decide +kernel
theorem dL_law_1096 : decode cL_law 1096 = .ok (.iconst 0, 1) := by decide +kernel
theorem dL_law_1097 : decode cL_law 1097 = .ok (.ireturn, 1) := by decide +kernel
theorem dL_law_1098 : decode cL_law 1098 = .ok (.aload_n 1, 1) := by decide +kernel
theorem dL_law_1099 : decode cL_law 1099 = .ok (.aload_n 0, 1) := by decide +kernel
theorem dL_law_1100 : decode cL_law 1100 = .ok (.iload_n 3, 1) := by decide +kernel
theorem dL_law_1101 : decode cL_law 1101 = .ok (.iconst 1, 1) := by decide +kernel
theorem dL_law_1102 : decode cL_law 1102 = .ok (.iadd, 1) := by decide +kernel
theorem dL_law_1103 : decode cL_law 1103 = .ok (.iaload, 1) := by decide +kernel
theorem dL_law_1104 : decode cL_law 1104 = .ok (.invokevirtual 150, 3) := by decide +kernel
theorem dL_law_1107 : decode cL_law 1107 = .ok (.aload_n 2, 1) := by decide +kernel
theorem dL_law_1108 : decode cL_law 1108 = .ok (.aload_n 0, 1) := by decide +kernel
theorem dL_law_1109 : decode cL_law 1109 = .ok (.iload_n 3, 1) := by decide +kernel
theorem dL_law_1110 : decode cL_law 1110 = .ok (.iconst 1, 1) := by decide +kernel
theorem dL_law_1111 : decode cL_law 1111 = .ok (.iadd, 1) := by decide +kernel
theorem dL_law_1112 : decode cL_law 1112 = .ok (.iaload, 1) := by decide +kernel
theorem dL_law_1113 : decode cL_law 1113 = .ok (.invokevirtual 153, 3) := by decide +kernel
theorem dL_law_1116 : decode cL_law 1116 = .ok (.if_icmp .eq 107, 3) := by decide +kernel
theorem dL_law_1119 : decode cL_law 1119 = .ok (.iconst 0, 1) := by decide +kernel
theorem dL_law_1120 : decode cL_law 1120 = .ok (.ireturn, 1) := by decide +kernel
theorem dL_law_1121 : decode cL_law 1121 = .ok (.aload_n 1, 1) := by decide +kernel
theorem dL_law_1122 : decode cL_law 1122 = .ok (.aload_n 0, 1) := by decide +kernel
theorem dL_law_1123 : decode cL_law 1123 = .ok (.iload_n 3, 1) := by decide +kernel
theorem dL_law_1124 : decode cL_law 1124 = .ok (.iconst 1, 1) := by decide +kernel
theorem dL_law_1125 : decode cL_law 1125 = .ok (.iadd, 1) := by decide +kernel
theorem dL_law_1126 : decode cL_law 1126 = .ok (.iaload, 1) := by decide +kernel
theorem dL_law_1127 : decode cL_law 1127 = .ok (.aload_n 0, 1) := by decide +kernel
theorem dL_law_1128 : decode cL_law 1128 = .ok (.iload_n 3, 1) := by decide +kernel
theorem dL_law_1129 : decode cL_law 1129 = .ok (.iconst 2, 1) := by decide +kernel
theorem dL_law_1130 : decode cL_law 1130 = .ok (.iadd, 1) := by decide +kernel
theorem dL_law_1131 : decode cL_law 1131 = .ok (.iaload, 1) := by decide +kernel
theorem dL_law_1132 : decode cL_law 1132 = .ok (.i2l, 1) := by decide +kernel
theorem dL_law_1133 : decode cL_law 1133 = .ok (.bipush 32, 2) := by decide +kernel
theorem dL_law_1135 : decode cL_law 1135 = .ok (.lshl, 1) := by decide +kernel
theorem dL_law_1136 : decode cL_law 1136 = .ok (.aload_n 0, 1) := by decide +kernel
theorem dL_law_1137 : decode cL_law 1137 = .ok (.iload_n 3, 1) := by decide +kernel
theorem dL_law_1138 : decode cL_law 1138 = .ok (.iconst 3, 1) := by decide +kernel
theorem dL_law_1139 : decode cL_law 1139 = .ok (.iadd, 1) := by decide +kernel
theorem dL_law_1140 : decode cL_law 1140 = .ok (.iaload, 1) := by decide +kernel
theorem dL_law_1141 : decode cL_law 1141 = .ok (.i2l, 1) := by decide +kernel
theorem dL_law_1142 : decode cL_law 1142 = .ok (.ldc2_w 28, 3) := by decide +kernel
theorem dL_law_1145 : decode cL_law 1145 = .ok (.land, 1) := by decide +kernel
theorem dL_law_1146 : decode cL_law 1146 = .ok (.lor, 1) := by decide +kernel
theorem dL_law_1147 : decode cL_law 1147 = .ok (.invokevirtual 154, 3) := by decide +kernel
theorem dL_law_1150 : decode cL_law 1150 = .ok (.aload_n 2, 1) := by decide +kernel
theorem dL_law_1151 : decode cL_law 1151 = .ok (.aload_n 0, 1) := by decide +kernel
theorem dL_law_1152 : decode cL_law 1152 = .ok (.iload_n 3, 1) := by decide +kernel
theorem dL_law_1153 : decode cL_law 1153 = .ok (.iconst 1, 1) := by decide +kernel
theorem dL_law_1154 : decode cL_law 1154 = .ok (.iadd, 1) := by decide +kernel
theorem dL_law_1155 : decode cL_law 1155 = .ok (.iaload, 1) := by decide +kernel
theorem dL_law_1156 : decode cL_law 1156 = .ok (.aload_n 0, 1) := by decide +kernel
theorem dL_law_1157 : decode cL_law 1157 = .ok (.iload_n 3, 1) := by decide +kernel
theorem dL_law_1158 : decode cL_law 1158 = .ok (.iconst 2, 1) := by decide +kernel
theorem dL_law_1159 : decode cL_law 1159 = .ok (.iadd, 1) := by decide +kernel
theorem dL_law_1160 : decode cL_law 1160 = .ok (.iaload, 1) := by decide +kernel
theorem dL_law_1161 : decode cL_law 1161 = .ok (.i2l, 1) := by decide +kernel
theorem dL_law_1162 : decode cL_law 1162 = .ok (.bipush 32, 2) := by decide +kernel
theorem dL_law_1164 : decode cL_law 1164 = .ok (.lshl, 1) := by decide +kernel
theorem dL_law_1165 : decode cL_law 1165 = .ok (.aload_n 0, 1) := by decide +kernel
theorem dL_law_1166 : decode cL_law 1166 = .ok (.iload_n 3, 1) := by decide +kernel
theorem dL_law_1167 : decode cL_law 1167 = .ok (.iconst 3, 1) := by decide +kernel
theorem dL_law_1168 : decode cL_law 1168 = .ok (.iadd, 1) := by decide +kernel
theorem dL_law_1169 : decode cL_law 1169 = .ok (.iaload, 1) := by decide +kernel
theorem dL_law_1170 : decode cL_law 1170 = .ok (.i2l, 1) := by decide +kernel
theorem dL_law_1171 : decode cL_law 1171 = .ok (.ldc2_w 28, 3) := by decide +kernel
theorem dL_law_1174 : decode cL_law 1174 = .ok (.land, 1) := by decide +kernel
theorem dL_law_1175 : decode cL_law 1175 = .ok (.lor, 1) := by decide +kernel
theorem dL_law_1176 : decode cL_law 1176 = .ok (.invokevirtual 158, 3) := by decide +kernel
theorem dL_law_1179 : decode cL_law 1179 = .ok (.if_icmp .eq 44, 3) := by decide +kernel
theorem dL_law_1182 : decode cL_law 1182 = .ok (.iconst 0, 1) := by decide +kernel
theorem dL_law_1183 : decode cL_law 1183 = .ok (.ireturn, 1) := by decide +kernel
theorem dL_law_1184 : decode cL_law 1184 = .ok (.aload_n 1, 1) := by decide +kernel
theorem dL_law_1185 : decode cL_law 1185 = .ok (.invokevirtual 159, 3) := by decide +kernel
theorem dL_law_1188 : decode cL_law 1188 = .ok (.aload_n 2, 1) := by decide +kernel
theorem dL_law_1189 : decode cL_law 1189 = .ok (.invokevirtual 162, 3) := by decide +kernel
theorem dL_law_1192 : decode cL_law 1192 = .ok (.if_icmp .eq 31, 3) := by decide +kernel
theorem dL_law_1195 : decode cL_law 1195 = .ok (.iconst 0, 1) := by decide +kernel
theorem dL_law_1196 : decode cL_law 1196 = .ok (.ireturn, 1) := by decide +kernel
theorem dL_law_1197 : decode cL_law 1197 = .ok (.aload_n 1, 1) := by decide +kernel
theorem dL_law_1198 : decode cL_law 1198 = .ok (.invokevirtual 163, 3) := by decide +kernel
theorem dL_law_1201 : decode cL_law 1201 = .ok (.aload_n 2, 1) := by decide +kernel
theorem dL_law_1202 : decode cL_law 1202 = .ok (.invokevirtual 166, 3) := by decide +kernel
theorem dL_law_1205 : decode cL_law 1205 = .ok (.if_icmp .eq 18, 3) := by decide +kernel
theorem dL_law_1208 : decode cL_law 1208 = .ok (.iconst 0, 1) := by decide +kernel
theorem dL_law_1209 : decode cL_law 1209 = .ok (.ireturn, 1) := by decide +kernel
theorem dL_law_1210 : decode cL_law 1210 = .ok (.aload_n 1, 1) := by decide +kernel
theorem dL_law_1211 : decode cL_law 1211 = .ok (.invokevirtual 167, 3) := by decide +kernel
theorem dL_law_1214 : decode cL_law 1214 = .ok (.aload_n 2, 1) := by decide +kernel
theorem dL_law_1215 : decode cL_law 1215 = .ok (.invokevirtual 170, 3) := by decide +kernel
theorem dL_law_1218 : decode cL_law 1218 = .ok (.if_icmp .eq 5, 3) := by decide +kernel
theorem dL_law_1221 : decode cL_law 1221 = .ok (.iconst 0, 1) := by decide +kernel
theorem dL_law_1222 : decode cL_law 1222 = .ok (.ireturn, 1) := by decide +kernel
theorem dL_law_1223 : decode cL_law 1223 = .ok (.iinc 3 5, 3) := by decide +kernel
theorem dL_law_1226 : decode cL_law 1226 = .ok (.goto (-1208), 3) := by decide +kernel
theorem dL_law_1229 : decode cL_law 1229 = .ok (.iconst 1, 1) := by decide +kernel
theorem dL_law_1230 : decode cL_law 1230 = .ok (.ireturn, 1) := by decide +kernel
