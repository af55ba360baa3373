theorem dX0_ofParting_0 : decode cX0_ofParting 0 = .ok (.aload_n 0, 1) := by decide +kernel
theorem dX0_ofParting_1 : decode cX0_ofParting 1 = .ok (.iload_n 1, 1) := by decide +kernel
theorem dX0_ofParting_2 : decode cX0_ofParting 2 = .ok (.invokestatic 9, 3) := by decide +kernel
theorem dX0_ofParting_5 : decode cX0_ofParting 5 = .ok (.lstore_n 3, 1) := by decide +kernel
theorem dX0_ofParting_6 : decode cX0_ofParting 6 = .ok (.iconst 0, 1) := by decide +kernel
theorem dX0_ofParting_7 : decode cX0_ofParting 7 = .ok (.istore 5, 2) := by decide +kernel
theorem dX0_ofParting_9 : decode cX0_ofParting 9 = .ok (.iload 5, 2) := by decide +kernel
theorem dX0_ofParting_11 : decode cX0_ofParting 11 = .ok (.aload_n 2, 1) := by decide +kernel
theorem dX0_ofParting_12 : decode cX0_ofParting 12 = .ok (.getfield 15, 3) := by decide +kernel
theorem dX0_ofParting_15 : decode cX0_ofParting 15 = .ok (.if_icmp .ge 26, 3) := by decide +kernel
theorem dX0_ofParting_18 : decode cX0_ofParting 18 = .ok (.iload_n 1, 1) := by decide +kernel
theorem dX0_ofParting_19 : decode cX0_ofParting 19 = .ok (.lload_n 3, 1) := by decide +kernel
theorem dX0_ofParting_20 : decode cX0_ofParting 20 = .ok (.aload_n 0, 1) := by decide +kernel
theorem dX0_ofParting_21 : decode cX0_ofParting 21 = .ok (.iload_n 1, 1) := by decide +kernel
theorem dX0_ofParting_22 : decode cX0_ofParting 22 = .ok (.aload_n 2, 1) := by decide +kernel
theorem dX0_ofParting_23 : decode cX0_ofParting 23 = .ok (.iload 5, 2) := by decide +kernel
theorem dX0_ofParting_25 : decode cX0_ofParting 25 = .ok (.invokevirtual 21, 3) := by decide +kernel
theorem dX0_ofParting_28 : decode cX0_ofParting 28 = .ok (.invokestatic 25, 3) := by decide +kernel
theorem dX0_ofParting_31 : decode cX0_ofParting 31 = .ok (.invokestatic 29, 3) := by decide +kernel
theorem dX0_ofParting_34 : decode cX0_ofParting 34 = .ok (.lstore_n 3, 1) := by decide +kernel
theorem dX0_ofParting_35 : decode cX0_ofParting 35 = .ok (.iinc 5 1, 3) := by decide +kernel
theorem dX0_ofParting_38 : decode cX0_ofParting 38 = .ok (.goto (-29), 3) := by decide +kernel
theorem dX0_ofParting_41 : decode cX0_ofParting 41 = .ok (.lload_n 3, 1) := by decide +kernel
theorem dX0_ofParting_42 : decode cX0_ofParting 42 = .ok (.lreturn, 1) := by decide +kernel
theorem dX0_ground_0 : decode cX0_ground 0 = .ok (.lconst 0, 1) := by decide +kernel
theorem dX0_ground_1 : decode cX0_ground 1 = .ok (.lstore_n 2, 1) := by decide +kernel
theorem dX0_ground_2 : decode cX0_ground 2 = .ok (.iconst 1, 1) := by decide +kernel
theorem dX0_ground_3 : decode cX0_ground 3 = .ok (.istore 4, 2) := by decide +kernel
theorem dX0_ground_5 : decode cX0_ground 5 = .ok (.iload 4, 2) := by decide +kernel
theorem dX0_ground_7 : decode cX0_ground 7 = .ok (.aload_n 0, 1) := by decide +kernel
theorem dX0_ground_8 : decode cX0_ground 8 = .ok (.getfield 33, 3) := by decide +kernel
theorem dX0_ground_11 : decode cX0_ground 11 = .ok (.if_icmp .ge 51, 3) := by decide +kernel
theorem dX0_ground_14 : decode cX0_ground 14 = .ok (.iload_n 1, 1) := by decide +kernel
theorem dX0_ground_15 : decode cX0_ground 15 = .ok (.iconst 3, 1) := by decide +kernel
theorem dX0_ground_16 : decode cX0_ground 16 = .ok (.if_icmp .ne 46, 3) := by decide +kernel
theorem dX0_ground_19 : decode cX0_ground 19 = .ok (.iconst 0, 1) := by decide +kernel
theorem dX0_ground_20 : decode cX0_ground 20 = .ok (.istore 5, 2) := by decide +kernel
theorem dX0_ground_22 : decode cX0_ground 22 = .ok (.iload 5, 2) := by decide +kernel
theorem dX0_ground_24 : decode cX0_ground 24 = .ok (.iload 4, 2) := by decide +kernel
theorem dX0_ground_26 : decode cX0_ground 26 = .ok (.if_icmp .ge 30, 3) := by decide +kernel
theorem dX0_ground_29 : decode cX0_ground 29 = .ok (.lload_n 2, 1) := by decide +kernel
theorem dX0_ground_30 : decode cX0_ground 30 = .ok (.aload_n 0, 1) := by decide +kernel
theorem dX0_ground_31 : decode cX0_ground 31 = .ok (.iload 4, 2) := by decide +kernel
theorem dX0_ground_33 : decode cX0_ground 33 = .ok (.iload 5, 2) := by decide +kernel
theorem dX0_ground_35 : decode cX0_ground 35 = .ok (.invokevirtual 38, 3) := by decide +kernel
theorem dX0_ground_38 : decode cX0_ground 38 = .ok (.aload_n 0, 1) := by decide +kernel
theorem dX0_ground_39 : decode cX0_ground 39 = .ok (.iload 4, 2) := by decide +kernel
theorem dX0_ground_41 : decode cX0_ground 41 = .ok (.iload 5, 2) := by decide +kernel
theorem dX0_ground_43 : decode cX0_ground 43 = .ok (.invokevirtual 42, 3) := by decide +kernel
theorem dX0_ground_46 : decode cX0_ground 46 = .ok (.imul, 1) := by decide +kernel
theorem dX0_ground_47 : decode cX0_ground 47 = .ok (.i2l, 1) := by decide +kernel
theorem dX0_ground_48 : decode cX0_ground 48 = .ok (.ladd, 1) := by decide +kernel
theorem dX0_ground_49 : decode cX0_ground 49 = .ok (.lstore_n 2, 1) := by decide +kernel
theorem dX0_ground_50 : decode cX0_ground 50 = .ok (.iinc 5 1, 3) := by decide +kernel
theorem dX0_ground_53 : decode cX0_ground 53 = .ok (.goto (-31), 3) := by decide +kernel
theorem dX0_ground_56 : decode cX0_ground 56 = .ok (.iinc 4 1, 3) := by decide +kernel
theorem dX0_ground_59 : decode cX0_ground 59 = .ok (.goto (-54), 3) := by decide +kernel
theorem dX0_ground_62 : decode cX0_ground 62 = .ok (.lload_n 2, 1) := by decide +kernel
theorem dX0_ground_63 : decode cX0_ground 63 = .ok (.lreturn, 1) := by decide +kernel
theorem dX0_with_0 : decode cX0_with 0 = .ok (.iload_n 0, 1) := by decide +kernel
theorem dX0_with_1 : decode cX0_with 1 = .ok (.iconst 2, 1) := by decide +kernel
theorem dX0_with_2 : decode cX0_with 2 = .ok (.if_icmp .ne 11, 3) := by decide +kernel
theorem dX0_with_5 : decode cX0_with 5 = .ok (.lload_n 1, 1) := by decide +kernel
theorem dX0_with_6 : decode cX0_with 6 = .ok (.lload_n 3, 1) := by decide +kernel
theorem dX0_with_7 : decode cX0_with 7 = .ok (.invokestatic 45, 3) := by decide +kernel
theorem dX0_with_10 : decode cX0_with 10 = .ok (.goto 6, 3) := by decide +kernel
theorem dX0_with_13 : decode cX0_with 13 = .ok (.lload_n 1, 1) := by decide +kernel
theorem dX0_with_14 : decode cX0_with 14 = .ok (.lload_n 3, 1) := by decide +kernel
theorem dX0_with_15 : decode cX0_with 15 = .ok (.ladd, 1) := by decide +kernel
theorem dX0_with_16 : decode cX0_with 16 = .ok (.lreturn, 1) := by decide +kernel
theorem dX0_ofHeap_0 : decode cX0_ofHeap 0 = .ok (.iload_n 1, 1) := by decide +kernel
theorem dX0_ofHeap_1 : decode cX0_ofHeap 1 = .ok (.tableswitch 50 0 2 #[27, 33, 44], 27) := by decide +kernel
theorem dX0_ofHeap_28 : decode cX0_ofHeap 28 = .ok (.aload_n 0, 1) := by decide +kernel
theorem dX0_ofHeap_29 : decode cX0_ofHeap 29 = .ok (.iload_n 2, 1) := by decide +kernel
theorem dX0_ofHeap_30 : decode cX0_ofHeap 30 = .ok (.invokestatic 51, 3) := by decide +kernel
theorem dX0_ofHeap_33 : decode cX0_ofHeap 33 = .ok (.lreturn, 1) := by decide +kernel
theorem dX0_ofHeap_34 : decode cX0_ofHeap 34 = .ok (.aload_n 0, 1) := by decide +kernel
theorem dX0_ofHeap_35 : decode cX0_ofHeap 35 = .ok (.aload_n 0, 1) := by decide +kernel
theorem dX0_ofHeap_36 : decode cX0_ofHeap 36 = .ok (.iload_n 2, 1) := by decide +kernel
theorem dX0_ofHeap_37 : decode cX0_ofHeap 37 = .ok (.invokestatic 54, 3) := by decide +kernel
theorem dX0_ofHeap_40 : decode cX0_ofHeap 40 = .ok (.iload_n 2, 1) := by decide +kernel
theorem dX0_ofHeap_41 : decode cX0_ofHeap 41 = .ok (.invokestatic 58, 3) := by decide +kernel
theorem dX0_ofHeap_44 : decode cX0_ofHeap 44 = .ok (.lreturn, 1) := by decide +kernel
theorem dX0_ofHeap_45 : decode cX0_ofHeap 45 = .ok (.aload_n 0, 1) := by decide +kernel
theorem dX0_ofHeap_46 : decode cX0_ofHeap 46 = .ok (.iload_n 2, 1) := by decide +kernel
theorem dX0_ofHeap_47 : decode cX0_ofHeap 47 = .ok (.invokestatic 61, 3) := by decide +kernel
theorem dX0_ofHeap_50 : decode cX0_ofHeap 50 = .ok (.lreturn, 1) := by decide +kernel
theorem dX0_ofHeap_51 : decode cX0_ofHeap 51 = .ok (.aload_n 0, 1) := by decide +kernel
theorem dX0_ofHeap_52 : decode cX0_ofHeap 52 = .ok (.iload_n 2, 1) := by decide +kernel
theorem dX0_ofHeap_53 : decode cX0_ofHeap 53 = .ok (.invokestatic 64, 3) := by decide +kernel
theorem dX0_ofHeap_56 : decode cX0_ofHeap 56 = .ok (.lreturn, 1) := by decide +kernel
theorem dX0_has_0 : decode cX0_has 0 = .ok (.iload_n 0, 1) := by decide +kernel
theorem dX0_has_1 : decode cX0_has 1 = .ok (.iload_n 1, 1) := by decide +kernel
theorem dX0_has_2 : decode cX0_has 2 = .ok (.ishr, 1) := by decide +kernel
theorem dX0_has_3 : decode cX0_has 3 = .ok (.iconst 1, 1) := by decide +kernel
theorem dX0_has_4 : decode cX0_has 4 = .ok (.iand, 1) := by decide +kernel
theorem dX0_has_5 : decode cX0_has 5 = .ok (.iconst 1, 1) := by decide +kernel
theorem dX0_has_6 : decode cX0_has 6 = .ok (.if_icmp .ne 7, 3) := by decide +kernel
theorem dX0_has_9 : decode cX0_has 9 = .ok (.iconst 1, 1) := by decide +kernel
theorem dX0_has_10 : decode cX0_has 10 = .ok (.goto 4, 3) := by decide +kernel
theorem dX0_has_13 : decode cX0_has 13 = .ok (.iconst 0, 1) := by decide +kernel
theorem dX0_has_14 : decode cX0_has 14 = .ok (.ireturn, 1) := by decide +kernel
theorem dX0_spread_0 : decode cX0_spread 0 = .ok (.lconst 0, 1) := by decide +kernel
theorem dX0_spread_1 : decode cX0_spread 1 = .ok (.lstore_n 2, 1) := by decide +kernel
theorem dX0_spread_2 : decode cX0_spread 2 = .ok (.iconst 0, 1) := by decide +kernel
theorem dX0_spread_3 : decode cX0_spread 3 = .ok (.istore 4, 2) := by decide +kernel
theorem dX0_spread_5 : decode cX0_spread 5 = .ok (.iconst 0, 1) := by decide +kernel
theorem dX0_spread_6 : decode cX0_spread 6 = .ok (.istore 5, 2) := by decide +kernel
theorem dX0_spread_8 : decode cX0_spread 8 = .ok (.iload 5, 2) := by decide +kernel
theorem dX0_spread_10 : decode cX0_spread 10 = .ok (.aload_n 0, 1) := by decide +kernel
theorem dX0_spread_11 : decode cX0_spread 11 = .ok (.getfield 33, 3) := by decide +kernel
theorem dX0_spread_14 : decode cX0_spread 14 = .ok (.if_icmp .ge 68, 3) := by decide +kernel
theorem dX0_spread_17 : decode cX0_spread 17 = .ok (.iload_n 1, 1) := by decide +kernel
theorem dX0_spread_18 : decode cX0_spread 18 = .ok (.iload 5, 2) := by decide +kernel
theorem dX0_spread_20 : decode cX0_spread 20 = .ok (.invokestatic 67, 3) := by decide +kernel
theorem dX0_spread_23 : decode cX0_spread 23 = .ok (.ifCond .ne 6, 3) := by decide +kernel
theorem dX0_spread_26 : decode cX0_spread 26 = .ok (.goto 50, 3) := by decide +kernel
theorem dX0_spread_29 : decode cX0_spread 29 = .ok (.iinc 4 1, 3) := by decide +kernel
theorem dX0_spread_32 : decode cX0_spread 32 = .ok (.iconst 0, 1) := by decide +kernel
theorem dX0_spread_33 : decode cX0_spread 33 = .ok (.istore 6, 2) := by decide +kernel
theorem dX0_spread_35 : decode cX0_spread 35 = .ok (.iload 6, 2) := by decide +kernel
theorem dX0_spread_37 : decode cX0_spread 37 = .ok (.iload 5, 2) := by decide +kernel
theorem dX0_spread_39 : decode cX0_spread 39 = .ok (.if_icmp .ge 37, 3) := by decide +kernel
theorem dX0_spread_42 : decode cX0_spread 42 = .ok (.iload_n 1, 1) := by decide +kernel
theorem dX0_spread_43 : decode cX0_spread 43 = .ok (.iload 6, 2) := by decide +kernel
theorem dX0_spread_45 : decode cX0_spread 45 = .ok (.invokestatic 67, 3) := by decide +kernel
theorem dX0_spread_48 : decode cX0_spread 48 = .ok (.ifCond .eq 22, 3) := by decide +kernel
theorem dX0_spread_51 : decode cX0_spread 51 = .ok (.aload_n 0, 1) := by decide +kernel
theorem dX0_spread_52 : decode cX0_spread 52 = .ok (.iload 5, 2) := by decide +kernel
theorem dX0_spread_54 : decode cX0_spread 54 = .ok (.iload 6, 2) := by decide +kernel
theorem dX0_spread_56 : decode cX0_spread 56 = .ok (.invokevirtual 71, 3) := by decide +kernel
theorem dX0_spread_59 : decode cX0_spread 59 = .ok (.i2l, 1) := by decide +kernel
theorem dX0_spread_60 : decode cX0_spread 60 = .ok (.lstore 7, 2) := by decide +kernel
theorem dX0_spread_62 : decode cX0_spread 62 = .ok (.lload_n 2, 1) := by decide +kernel
theorem dX0_spread_63 : decode cX0_spread 63 = .ok (.lload 7, 2) := by decide +kernel
theorem dX0_spread_65 : decode cX0_spread 65 = .ok (.lload 7, 2) := by decide +kernel
theorem dX0_spread_67 : decode cX0_spread 67 = .ok (.lmul, 1) := by decide +kernel
theorem dX0_spread_68 : decode cX0_spread 68 = .ok (.ladd, 1) := by decide +kernel
theorem dX0_spread_69 : decode cX0_spread 69 = .ok (.lstore_n 2, 1) := by decide +kernel
theorem dX0_spread_70 : decode cX0_spread 70 = .ok (.iinc 6 1, 3) := by decide +kernel
theorem dX0_spread_73 : decode cX0_spread 73 = .ok (.goto (-38), 3) := by decide +kernel
theorem dX0_spread_76 : decode cX0_spread 76 = .ok (.iinc 5 1, 3) := by decide +kernel
theorem dX0_spread_79 : decode cX0_spread 79 = .ok (.goto (-71), 3) := by decide +kernel
theorem dX0_spread_82 : decode cX0_spread 82 = .ok (.iload 4, 2) := by decide +kernel
theorem dX0_spread_84 : decode cX0_spread 84 = .ok (.ifCond .ne 7, 3) := by decide +kernel
theorem dX0_spread_87 : decode cX0_spread 87 = .ok (.lconst 0, 1) := by decide +kernel
theorem dX0_spread_88 : decode cX0_spread 88 = .ok (.goto 12, 3) := by decide +kernel
theorem dX0_spread_91 : decode cX0_spread 91 = .ok (.lload_n 2, 1) := by decide +kernel
theorem dX0_spread_92 : decode cX0_spread 92 = .ok (.ldc2_w 74, 3) := by decide +kernel
theorem dX0_spread_95 : decode cX0_spread 95 = .ok (.lmul, 1) := by decide +kernel
theorem dX0_spread_96 : decode cX0_spread 96 = .ok (.iload 4, 2) := by decide +kernel
theorem dX0_spread_98 : decode cX0_spread 98 = .ok (.i2l, 1) := by decide +kernel
theorem dX0_spread_99 : decode cX0_spread 99 = .ok (.ldiv, 1) := by decide +kernel
theorem dX0_spread_100 : decode cX0_spread 100 = .ok (.lreturn, 1) := by decide +kernel
theorem dX0_middleOf_0 : decode cX0_middleOf 0 = .ok (.iconst (-1), 1) := by decide +kernel
theorem dX0_middleOf_1 : decode cX0_middleOf 1 = .ok (.istore_n 2, 1) := by decide +kernel
theorem dX0_middleOf_2 : decode cX0_middleOf 2 = .ok (.ldc2_w 78, 3) := by decide +kernel
theorem dX0_middleOf_5 : decode cX0_middleOf 5 = .ok (.lstore_n 3, 1) := by decide +kernel
theorem dX0_middleOf_6 : decode cX0_middleOf 6 = .ok (.iconst 0, 1) := by decide +kernel
theorem dX0_middleOf_7 : decode cX0_middleOf 7 = .ok (.istore 5, 2) := by decide +kernel
theorem dX0_middleOf_9 : decode cX0_middleOf 9 = .ok (.iload 5, 2) := by decide +kernel
theorem dX0_middleOf_11 : decode cX0_middleOf 11 = .ok (.aload_n 0, 1) := by decide +kernel
theorem dX0_middleOf_12 : decode cX0_middleOf 12 = .ok (.getfield 33, 3) := by decide +kernel
theorem dX0_middleOf_15 : decode cX0_middleOf 15 = .ok (.if_icmp .ge 40, 3) := by decide +kernel
theorem dX0_middleOf_18 : decode cX0_middleOf 18 = .ok (.iload_n 1, 1) := by decide +kernel
theorem dX0_middleOf_19 : decode cX0_middleOf 19 = .ok (.iload 5, 2) := by decide +kernel
theorem dX0_middleOf_21 : decode cX0_middleOf 21 = .ok (.invokestatic 67, 3) := by decide +kernel
theorem dX0_middleOf_24 : decode cX0_middleOf 24 = .ok (.ifCond .eq 25, 3) := by decide +kernel
theorem dX0_middleOf_27 : decode cX0_middleOf 27 = .ok (.aload_n 0, 1) := by decide +kernel
theorem dX0_middleOf_28 : decode cX0_middleOf 28 = .ok (.iload 5, 2) := by decide +kernel
theorem dX0_middleOf_30 : decode cX0_middleOf 30 = .ok (.iload_n 1, 1) := by decide +kernel
theorem dX0_middleOf_31 : decode cX0_middleOf 31 = .ok (.invokestatic 58, 3) := by decide +kernel
theorem dX0_middleOf_34 : decode cX0_middleOf 34 = .ok (.lstore 6, 2) := by decide +kernel
theorem dX0_middleOf_36 : decode cX0_middleOf 36 = .ok (.lload 6, 2) := by decide +kernel
theorem dX0_middleOf_38 : decode cX0_middleOf 38 = .ok (.lload_n 3, 1) := by decide +kernel
theorem dX0_middleOf_39 : decode cX0_middleOf 39 = .ok (.lcmp, 1) := by decide +kernel
theorem dX0_middleOf_40 : decode cX0_middleOf 40 = .ok (.ifCond .ge 9, 3) := by decide +kernel
theorem dX0_middleOf_43 : decode cX0_middleOf 43 = .ok (.lload 6, 2) := by decide +kernel
theorem dX0_middleOf_45 : decode cX0_middleOf 45 = .ok (.lstore_n 3, 1) := by decide +kernel
theorem dX0_middleOf_46 : decode cX0_middleOf 46 = .ok (.iload 5, 2) := by decide +kernel
theorem dX0_middleOf_48 : decode cX0_middleOf 48 = .ok (.istore_n 2, 1) := by decide +kernel
theorem dX0_middleOf_49 : decode cX0_middleOf 49 = .ok (.iinc 5 1, 3) := by decide +kernel
theorem dX0_middleOf_52 : decode cX0_middleOf 52 = .ok (.goto (-43), 3) := by decide +kernel
theorem dX0_middleOf_55 : decode cX0_middleOf 55 = .ok (.iload_n 2, 1) := by decide +kernel
theorem dX0_middleOf_56 : decode cX0_middleOf 56 = .ok (.ireturn, 1) := by decide +kernel
theorem dX0_sumFrom_0 : decode cX0_sumFrom 0 = .ok (.lconst 0, 1) := by decide +kernel
theorem dX0_sumFrom_1 : decode cX0_sumFrom 1 = .ok (.lstore_n 3, 1) := by decide +kernel
theorem dX0_sumFrom_2 : decode cX0_sumFrom 2 = .ok (.iconst 0, 1) := by decide +kernel
theorem dX0_sumFrom_3 : decode cX0_sumFrom 3 = .ok (.istore 5, 2) := by decide +kernel
theorem dX0_sumFrom_5 : decode cX0_sumFrom 5 = .ok (.iload 5, 2) := by decide +kernel
theorem dX0_sumFrom_7 : decode cX0_sumFrom 7 = .ok (.aload_n 0, 1) := by decide +kernel
theorem dX0_sumFrom_8 : decode cX0_sumFrom 8 = .ok (.getfield 33, 3) := by decide +kernel
theorem dX0_sumFrom_11 : decode cX0_sumFrom 11 = .ok (.if_icmp .ge 33, 3) := by decide +kernel
theorem dX0_sumFrom_14 : decode cX0_sumFrom 14 = .ok (.iload_n 1, 1) := by decide +kernel
theorem dX0_sumFrom_15 : decode cX0_sumFrom 15 = .ok (.ifCond .lt 29, 3) := by decide +kernel
theorem dX0_sumFrom_18 : decode cX0_sumFrom 18 = .ok (.iload_n 2, 1) := by decide +kernel
theorem dX0_sumFrom_19 : decode cX0_sumFrom 19 = .ok (.iload 5, 2) := by decide +kernel
theorem dX0_sumFrom_21 : decode cX0_sumFrom 21 = .ok (.invokestatic 67, 3) := by decide +kernel
theorem dX0_sumFrom_24 : decode cX0_sumFrom 24 = .ok (.ifCond .eq 14, 3) := by decide +kernel
theorem dX0_sumFrom_27 : decode cX0_sumFrom 27 = .ok (.lload_n 3, 1) := by decide +kernel
theorem dX0_sumFrom_28 : decode cX0_sumFrom 28 = .ok (.aload_n 0, 1) := by decide +kernel
theorem dX0_sumFrom_29 : decode cX0_sumFrom 29 = .ok (.iload_n 1, 1) := by decide +kernel
theorem dX0_sumFrom_30 : decode cX0_sumFrom 30 = .ok (.iload 5, 2) := by decide +kernel
theorem dX0_sumFrom_32 : decode cX0_sumFrom 32 = .ok (.invokevirtual 71, 3) := by decide +kernel
theorem dX0_sumFrom_35 : decode cX0_sumFrom 35 = .ok (.i2l, 1) := by decide +kernel
theorem dX0_sumFrom_36 : decode cX0_sumFrom 36 = .ok (.ladd, 1) := by decide +kernel
theorem dX0_sumFrom_37 : decode cX0_sumFrom 37 = .ok (.lstore_n 3, 1) := by decide +kernel
theorem dX0_sumFrom_38 : decode cX0_sumFrom 38 = .ok (.iinc 5 1, 3) := by decide +kernel
theorem dX0_sumFrom_41 : decode cX0_sumFrom 41 = .ok (.goto (-36), 3) := by decide +kernel
theorem dX0_sumFrom_44 : decode cX0_sumFrom 44 = .ok (.lload_n 3, 1) := by decide +kernel
theorem dX0_sumFrom_45 : decode cX0_sumFrom 45 = .ok (.lreturn, 1) := by decide +kernel
theorem dX0_width_0 : decode cX0_width 0 = .ok (.iconst 0, 1) := by decide +kernel
theorem dX0_width_1 : decode cX0_width 1 = .ok (.istore_n 2, 1) := by decide +kernel
theorem dX0_width_2 : decode cX0_width 2 = .ok (.iconst 1, 1) := by decide +kernel
theorem dX0_width_3 : decode cX0_width 3 = .ok (.istore_n 3, 1) := by decide +kernel
theorem dX0_width_4 : decode cX0_width 4 = .ok (.iload_n 3, 1) := by decide +kernel
theorem dX0_width_5 : decode cX0_width 5 = .ok (.aload_n 0, 1) := by decide +kernel
theorem dX0_width_6 : decode cX0_width 6 = .ok (.getfield 33, 3) := by decide +kernel
theorem dX0_width_9 : decode cX0_width 9 = .ok (.if_icmp .ge 29, 3) := by decide +kernel
theorem dX0_width_12 : decode cX0_width 12 = .ok (.iload_n 1, 1) := by decide +kernel
theorem dX0_width_13 : decode cX0_width 13 = .ok (.iload_n 3, 1) := by decide +kernel
theorem dX0_width_14 : decode cX0_width 14 = .ok (.invokestatic 67, 3) := by decide +kernel
theorem dX0_width_17 : decode cX0_width 17 = .ok (.ifCond .eq 15, 3) := by decide +kernel
theorem dX0_width_20 : decode cX0_width 20 = .ok (.iload_n 2, 1) := by decide +kernel
theorem dX0_width_21 : decode cX0_width 21 = .ok (.aload_n 0, 1) := by decide +kernel
theorem dX0_width_22 : decode cX0_width 22 = .ok (.iload_n 3, 1) := by decide +kernel
theorem dX0_width_23 : decode cX0_width 23 = .ok (.iload_n 1, 1) := by decide +kernel
theorem dX0_width_24 : decode cX0_width 24 = .ok (.iload_n 3, 1) := by decide +kernel
theorem dX0_width_25 : decode cX0_width 25 = .ok (.invokestatic 80, 3) := by decide +kernel
theorem dX0_width_28 : decode cX0_width 28 = .ok (.invokestatic 84, 3) := by decide +kernel
theorem dX0_width_31 : decode cX0_width 31 = .ok (.istore_n 2, 1) := by decide +kernel
theorem dX0_width_32 : decode cX0_width 32 = .ok (.iinc 3 1, 3) := by decide +kernel
theorem dX0_width_35 : decode cX0_width 35 = .ok (.goto (-31), 3) := by decide +kernel
theorem dX0_width_38 : decode cX0_width 38 = .ok (.iload_n 2, 1) := by decide +kernel
theorem dX0_width_39 : decode cX0_width 39 = .ok (.i2l, 1) := by decide +kernel
theorem dX0_width_40 : decode cX0_width 40 = .ok (.lreturn, 1) := by decide +kernel
theorem dX0_reach_0 : decode cX0_reach 0 = .ok (.iconst 0, 1) := by decide +kernel
theorem dX0_reach_1 : decode cX0_reach 1 = .ok (.istore 4, 2) := by decide +kernel
theorem dX0_reach_3 : decode cX0_reach 3 = .ok (.iconst 0, 1) := by decide +kernel
theorem dX0_reach_4 : decode cX0_reach 4 = .ok (.istore 5, 2) := by decide +kernel
theorem dX0_reach_6 : decode cX0_reach 6 = .ok (.iload 5, 2) := by decide +kernel
theorem dX0_reach_8 : decode cX0_reach 8 = .ok (.iload_n 3, 1) := by decide +kernel
theorem dX0_reach_9 : decode cX0_reach 9 = .ok (.if_icmp .ge 32, 3) := by decide +kernel
theorem dX0_reach_12 : decode cX0_reach 12 = .ok (.iload_n 2, 1) := by decide +kernel
theorem dX0_reach_13 : decode cX0_reach 13 = .ok (.iload 5, 2) := by decide +kernel
theorem dX0_reach_15 : decode cX0_reach 15 = .ok (.invokestatic 67, 3) := by decide +kernel
theorem dX0_reach_18 : decode cX0_reach 18 = .ok (.ifCond .eq 17, 3) := by decide +kernel
theorem dX0_reach_21 : decode cX0_reach 21 = .ok (.iload 4, 2) := by decide +kernel
theorem dX0_reach_23 : decode cX0_reach 23 = .ok (.aload_n 0, 1) := by decide +kernel
theorem dX0_reach_24 : decode cX0_reach 24 = .ok (.iload_n 1, 1) := by decide +kernel
theorem dX0_reach_25 : decode cX0_reach 25 = .ok (.iload 5, 2) := by decide +kernel
theorem dX0_reach_27 : decode cX0_reach 27 = .ok (.invokevirtual 71, 3) := by decide +kernel
theorem dX0_reach_30 : decode cX0_reach 30 = .ok (.invokestatic 84, 3) := by decide +kernel
theorem dX0_reach_33 : decode cX0_reach 33 = .ok (.istore 4, 2) := by decide +kernel
theorem dX0_reach_35 : decode cX0_reach 35 = .ok (.iinc 5 1, 3) := by decide +kernel
theorem dX0_reach_38 : decode cX0_reach 38 = .ok (.goto (-32), 3) := by decide +kernel
theorem dX0_reach_41 : decode cX0_reach 41 = .ok (.iload 4, 2) := by decide +kernel
theorem dX0_reach_43 : decode cX0_reach 43 = .ok (.ireturn, 1) := by decide +kernel
theorem dX0_quarrels_0 : decode cX0_quarrels 0 = .ok (.lconst 0, 1) := by decide +kernel
theorem dX0_quarrels_1 : decode cX0_quarrels 1 = .ok (.lstore_n 2, 1) := by decide +kernel
theorem dX0_quarrels_2 : decode cX0_quarrels 2 = .ok (.iconst 1, 1) := by decide +kernel
theorem dX0_quarrels_3 : decode cX0_quarrels 3 = .ok (.istore 4, 2) := by decide +kernel
theorem dX0_quarrels_5 : decode cX0_quarrels 5 = .ok (.iload 4, 2) := by decide +kernel
theorem dX0_quarrels_7 : decode cX0_quarrels 7 = .ok (.aload_n 0, 1) := by decide +kernel
theorem dX0_quarrels_8 : decode cX0_quarrels 8 = .ok (.getfield 33, 3) := by decide +kernel
theorem dX0_quarrels_11 : decode cX0_quarrels 11 = .ok (.if_icmp .ge 78, 3) := by decide +kernel
theorem dX0_quarrels_14 : decode cX0_quarrels 14 = .ok (.iconst 0, 1) := by decide +kernel
theorem dX0_quarrels_15 : decode cX0_quarrels 15 = .ok (.istore 5, 2) := by decide +kernel
theorem dX0_quarrels_17 : decode cX0_quarrels 17 = .ok (.iload 5, 2) := by decide +kernel
theorem dX0_quarrels_19 : decode cX0_quarrels 19 = .ok (.iload 4, 2) := by decide +kernel
theorem dX0_quarrels_21 : decode cX0_quarrels 21 = .ok (.if_icmp .ge 62, 3) := by decide +kernel
theorem dX0_quarrels_24 : decode cX0_quarrels 24 = .ok (.iload_n 1, 1) := by decide +kernel
theorem dX0_quarrels_25 : decode cX0_quarrels 25 = .ok (.iload 4, 2) := by decide +kernel
theorem dX0_quarrels_27 : decode cX0_quarrels 27 = .ok (.invokestatic 67, 3) := by decide +kernel
theorem dX0_quarrels_30 : decode cX0_quarrels 30 = .ok (.ifCond .eq 53, 3) := by decide +kernel
theorem dX0_quarrels_33 : decode cX0_quarrels 33 = .ok (.iload_n 1, 1) := by decide +kernel
theorem dX0_quarrels_34 : decode cX0_quarrels 34 = .ok (.iload 5, 2) := by decide +kernel
theorem dX0_quarrels_36 : decode cX0_quarrels 36 = .ok (.invokestatic 67, 3) := by decide +kernel
theorem dX0_quarrels_39 : decode cX0_quarrels 39 = .ok (.ifCond .eq 38, 3) := by decide +kernel
theorem dX0_quarrels_42 : decode cX0_quarrels 42 = .ok (.aload_n 0, 1) := by decide +kernel
theorem dX0_quarrels_43 : decode cX0_quarrels 43 = .ok (.iload 4, 2) := by decide +kernel
theorem dX0_quarrels_45 : decode cX0_quarrels 45 = .ok (.iload 5, 2) := by decide +kernel
theorem dX0_quarrels_47 : decode cX0_quarrels 47 = .ok (.invokevirtual 42, 3) := by decide +kernel
theorem dX0_quarrels_50 : decode cX0_quarrels 50 = .ok (.istore 6, 2) := by decide +kernel
theorem dX0_quarrels_52 : decode cX0_quarrels 52 = .ok (.lload_n 2, 1) := by decide +kernel
theorem dX0_quarrels_53 : decode cX0_quarrels 53 = .ok (.aload_n 0, 1) := by decide +kernel
theorem dX0_quarrels_54 : decode cX0_quarrels 54 = .ok (.iload 4, 2) := by decide +kernel
theorem dX0_quarrels_56 : decode cX0_quarrels 56 = .ok (.iload 5, 2) := by decide +kernel
theorem dX0_quarrels_58 : decode cX0_quarrels 58 = .ok (.invokevirtual 38, 3) := by decide +kernel
theorem dX0_quarrels_61 : decode cX0_quarrels 61 = .ok (.iconst 1, 1) := by decide +kernel
theorem dX0_quarrels_62 : decode cX0_quarrels 62 = .ok (.if_icmp .ne 10, 3) := by decide +kernel
theorem dX0_quarrels_65 : decode cX0_quarrels 65 = .ok (.iload 6, 2) := by decide +kernel
theorem dX0_quarrels_67 : decode cX0_quarrels 67 = .ok (.ineg, 1) := by decide +kernel
theorem dX0_quarrels_68 : decode cX0_quarrels 68 = .ok (.i2l, 1) := by decide +kernel
theorem dX0_quarrels_69 : decode cX0_quarrels 69 = .ok (.goto 6, 3) := by decide +kernel
theorem dX0_quarrels_72 : decode cX0_quarrels 72 = .ok (.iload 6, 2) := by decide +kernel
theorem dX0_quarrels_74 : decode cX0_quarrels 74 = .ok (.i2l, 1) := by decide +kernel
theorem dX0_quarrels_75 : decode cX0_quarrels 75 = .ok (.ladd, 1) := by decide +kernel
theorem dX0_quarrels_76 : decode cX0_quarrels 76 = .ok (.lstore_n 2, 1) := by decide +kernel
theorem dX0_quarrels_77 : decode cX0_quarrels 77 = .ok (.iinc 5 1, 3) := by decide +kernel
theorem dX0_quarrels_80 : decode cX0_quarrels 80 = .ok (.goto (-63), 3) := by decide +kernel
theorem dX0_quarrels_83 : decode cX0_quarrels 83 = .ok (.iinc 4 1, 3) := by decide +kernel
theorem dX0_quarrels_86 : decode cX0_quarrels 86 = .ok (.goto (-81), 3) := by decide +kernel
theorem dX0_quarrels_89 : decode cX0_quarrels 89 = .ok (.lload_n 2, 1) := by decide +kernel
theorem dX0_quarrels_90 : decode cX0_quarrels 90 = .ok (.lreturn, 1) := by decide +kernel
theorem dX1_init_0 : decode cX1_init 0 = .ok (.aload_n 0, 1) := by decide +kernel
theorem dX1_init_1 : decode cX1_init 1 = .ok (.invokespecial 3, 3) := by decide +kernel
theorem dX1_init_4 : decode cX1_init 4 = .ok (.aload_n 0, 1) := by decide +kernel
theorem dX1_init_5 : decode cX1_init 5 = .ok (.iconst 0, 1) := by decide +kernel
theorem dX1_init_6 : decode cX1_init 6 = .ok (.putfield 9, 3) := by decide +kernel
theorem dX1_init_9 : decode cX1_init 9 = .ok (.aload_n 0, 1) := by decide +kernel
theorem dX1_init_10 : decode cX1_init 10 = .ok (.iconst 0, 1) := by decide +kernel
theorem dX1_init_11 : decode cX1_init 11 = .ok (.putfield 15, 3) := by decide +kernel
theorem dX1_init_14 : decode cX1_init 14 = .ok (.aload_n 0, 1) := by decide +kernel
theorem dX1_init_15 : decode cX1_init 15 = .ok (.bipush 20, 2) := by decide +kernel
theorem dX1_init_17 : decode cX1_init 17 = .ok (.anewarray 18, 3) := by decide +kernel
theorem dX1_init_20 : decode cX1_init 20 = .ok (.putfield 20, 3) := by decide +kernel
theorem dX1_init_23 : decode cX1_init 23 = .ok (.return_, 1) := by decide +kernel
theorem dX1_remember_0 : decode cX1_remember 0 = .ok (.aload_n 0, 1) := by decide +kernel
theorem dX1_remember_1 : decode cX1_remember 1 = .ok (.getfield 20, 3) := by decide +kernel
theorem dX1_remember_4 : decode cX1_remember 4 = .ok (.aload_n 0, 1) := by decide +kernel
theorem dX1_remember_5 : decode cX1_remember 5 = .ok (.getfield 15, 3) := by decide +kernel
theorem dX1_remember_8 : decode cX1_remember 8 = .ok (.aaload, 1) := by decide +kernel
theorem dX1_remember_9 : decode cX1_remember 9 = .ok (.ifnonnull 19, 3) := by decide +kernel
theorem dX1_remember_12 : decode cX1_remember 12 = .ok (.aload_n 0, 1) := by decide +kernel
theorem dX1_remember_13 : decode cX1_remember 13 = .ok (.getfield 20, 3) := by decide +kernel
theorem dX1_remember_16 : decode cX1_remember 16 = .ok (.aload_n 0, 1) := by decide +kernel
theorem dX1_remember_17 : decode cX1_remember 17 = .ok (.getfield 15, 3) := by decide +kernel
theorem dX1_remember_20 : decode cX1_remember 20 = .ok (.new 18, 3) := by decide +kernel
theorem dX1_remember_23 : decode cX1_remember 23 = .ok (.dup, 1) := by decide +kernel
theorem dX1_remember_24 : decode cX1_remember 24 = .ok (.invokespecial 24, 3) := by decide +kernel
theorem dX1_remember_27 : decode cX1_remember 27 = .ok (.aastore, 1) := by decide +kernel
theorem dX1_remember_28 : decode cX1_remember 28 = .ok (.aload_n 0, 1) := by decide +kernel
theorem dX1_remember_29 : decode cX1_remember 29 = .ok (.getfield 20, 3) := by decide +kernel
theorem dX1_remember_32 : decode cX1_remember 32 = .ok (.aload_n 0, 1) := by decide +kernel
theorem dX1_remember_33 : decode cX1_remember 33 = .ok (.getfield 15, 3) := by decide +kernel
theorem dX1_remember_36 : decode cX1_remember 36 = .ok (.aaload, 1) := by decide +kernel
theorem dX1_remember_37 : decode cX1_remember 37 = .ok (.aload_n 1, 1) := by decide +kernel
theorem dX1_remember_38 : decode cX1_remember 38 = .ok (.invokevirtual 25, 3) := by decide +kernel
theorem dX1_remember_41 : decode cX1_remember 41 = .ok (.aload_n 0, 1) := by decide +kernel
theorem dX1_remember_42 : decode cX1_remember 42 = .ok (.aload_n 0, 1) := by decide +kernel
theorem dX1_remember_43 : decode cX1_remember 43 = .ok (.getfield 15, 3) := by decide +kernel
theorem dX1_remember_46 : decode cX1_remember 46 = .ok (.iconst 1, 1) := by decide +kernel
theorem dX1_remember_47 : decode cX1_remember 47 = .ok (.iadd, 1) := by decide +kernel
theorem dX1_remember_48 : decode cX1_remember 48 = .ok (.bipush 20, 2) := by decide +kernel
theorem dX1_remember_50 : decode cX1_remember 50 = .ok (.if_icmp .ge 12, 3) := by decide +kernel
theorem dX1_remember_53 : decode cX1_remember 53 = .ok (.aload_n 0, 1) := by decide +kernel
theorem dX1_remember_54 : decode cX1_remember 54 = .ok (.getfield 15, 3) := by decide +kernel
theorem dX1_remember_57 : decode cX1_remember 57 = .ok (.iconst 1, 1) := by decide +kernel
theorem dX1_remember_58 : decode cX1_remember 58 = .ok (.iadd, 1) := by decide +kernel
theorem dX1_remember_59 : decode cX1_remember 59 = .ok (.goto 4, 3) := by decide +kernel
theorem dX1_remember_62 : decode cX1_remember 62 = .ok (.iconst 0, 1) := by decide +kernel
theorem dX1_remember_63 : decode cX1_remember 63 = .ok (.putfield 15, 3) := by decide +kernel
theorem dX1_remember_66 : decode cX1_remember 66 = .ok (.aload_n 0, 1) := by decide +kernel
theorem dX1_remember_67 : decode cX1_remember 67 = .ok (.aload_n 0, 1) := by decide +kernel
theorem dX1_remember_68 : decode cX1_remember 68 = .ok (.getfield 9, 3) := by decide +kernel
theorem dX1_remember_71 : decode cX1_remember 71 = .ok (.iconst 1, 1) := by decide +kernel
theorem dX1_remember_72 : decode cX1_remember 72 = .ok (.iadd, 1) := by decide +kernel
theorem dX1_remember_73 : decode cX1_remember 73 = .ok (.bipush 20, 2) := by decide +kernel
theorem dX1_remember_75 : decode cX1_remember 75 = .ok (.invokestatic 29, 3) := by decide +kernel
theorem dX1_remember_78 : decode cX1_remember 78 = .ok (.putfield 9, 3) := by decide +kernel
theorem dX1_remember_81 : decode cX1_remember 81 = .ok (.return_, 1) := by decide +kernel
theorem dX1_bringBack_0 : decode cX1_bringBack 0 = .ok (.aload_n 0, 1) := by decide +kernel
theorem dX1_bringBack_1 : decode cX1_bringBack 1 = .ok (.getfield 15, 3) := by decide +kernel
theorem dX1_bringBack_4 : decode cX1_bringBack 4 = .ok (.ifCond .le 12, 3) := by decide +kernel
theorem dX1_bringBack_7 : decode cX1_bringBack 7 = .ok (.aload_n 0, 1) := by decide +kernel
theorem dX1_bringBack_8 : decode cX1_bringBack 8 = .ok (.getfield 15, 3) := by decide +kernel
theorem dX1_bringBack_11 : decode cX1_bringBack 11 = .ok (.iconst 1, 1) := by decide +kernel
theorem dX1_bringBack_12 : decode cX1_bringBack 12 = .ok (.isub, 1) := by decide +kernel
theorem dX1_bringBack_13 : decode cX1_bringBack 13 = .ok (.goto 5, 3) := by decide +kernel
theorem dX1_bringBack_16 : decode cX1_bringBack 16 = .ok (.bipush 19, 2) := by decide +kernel
theorem dX1_bringBack_18 : decode cX1_bringBack 18 = .ok (.istore_n 2, 1) := by decide +kernel
theorem dX1_bringBack_19 : decode cX1_bringBack 19 = .ok (.aload_n 0, 1) := by decide +kernel
theorem dX1_bringBack_20 : decode cX1_bringBack 20 = .ok (.getfield 9, 3) := by decide +kernel
theorem dX1_bringBack_23 : decode cX1_bringBack 23 = .ok (.ifCond .eq 12, 3) := by decide +kernel
theorem dX1_bringBack_26 : decode cX1_bringBack 26 = .ok (.aload_n 0, 1) := by decide +kernel
theorem dX1_bringBack_27 : decode cX1_bringBack 27 = .ok (.getfield 20, 3) := by decide +kernel
theorem dX1_bringBack_30 : decode cX1_bringBack 30 = .ok (.iload_n 2, 1) := by decide +kernel
theorem dX1_bringBack_31 : decode cX1_bringBack 31 = .ok (.aaload, 1) := by decide +kernel
theorem dX1_bringBack_32 : decode cX1_bringBack 32 = .ok (.ifnonnull 4, 3) := by decide +kernel
theorem dX1_bringBack_35 : decode cX1_bringBack 35 = .ok (.return_, 1) := by decide +kernel
theorem dX1_bringBack_36 : decode cX1_bringBack 36 = .ok (.aload_n 1, 1) := by decide +kernel
theorem dX1_bringBack_37 : decode cX1_bringBack 37 = .ok (.aload_n 0, 1) := by decide +kernel
theorem dX1_bringBack_38 : decode cX1_bringBack 38 = .ok (.getfield 20, 3) := by decide +kernel
theorem dX1_bringBack_41 : decode cX1_bringBack 41 = .ok (.iload_n 2, 1) := by decide +kernel
theorem dX1_bringBack_42 : decode cX1_bringBack 42 = .ok (.aaload, 1) := by decide +kernel
theorem dX1_bringBack_43 : decode cX1_bringBack 43 = .ok (.invokevirtual 25, 3) := by decide +kernel
theorem dX1_bringBack_46 : decode cX1_bringBack 46 = .ok (.aload_n 0, 1) := by decide +kernel
theorem dX1_bringBack_47 : decode cX1_bringBack 47 = .ok (.iload_n 2, 1) := by decide +kernel
theorem dX1_bringBack_48 : decode cX1_bringBack 48 = .ok (.putfield 15, 3) := by decide +kernel
theorem dX1_bringBack_51 : decode cX1_bringBack 51 = .ok (.aload_n 0, 1) := by decide +kernel
theorem dX1_bringBack_52 : decode cX1_bringBack 52 = .ok (.dup, 1) := by decide +kernel
theorem dX1_bringBack_53 : decode cX1_bringBack 53 = .ok (.getfield 9, 3) := by decide +kernel
theorem dX1_bringBack_56 : decode cX1_bringBack 56 = .ok (.iconst 1, 1) := by decide +kernel
theorem dX1_bringBack_57 : decode cX1_bringBack 57 = .ok (.isub, 1) := by decide +kernel
theorem dX1_bringBack_58 : decode cX1_bringBack 58 = .ok (.putfield 9, 3) := by decide +kernel
theorem dX1_bringBack_61 : decode cX1_bringBack 61 = .ok (.return_, 1) := by decide +kernel
theorem dX2_init_0 : decode cX2_init 0 = .ok (.aload_n 0, 1) := by decide +kernel
theorem dX2_init_1 : decode cX2_init 1 = .ok (.invokespecial 3, 3) := by decide +kernel
theorem dX2_init_4 : decode cX2_init 4 = .ok (.aload_n 0, 1) := by decide +kernel
theorem dX2_init_5 : decode cX2_init 5 = .ok (.bipush 12, 2) := by decide +kernel
theorem dX2_init_7 : decode cX2_init 7 = .ok (.newarray .int, 2) := by decide +kernel
theorem dX2_init_9 : decode cX2_init 9 = .ok (.putfield 9, 3) := by decide +kernel
theorem dX2_init_12 : decode cX2_init 12 = .ok (.aload_n 0, 1) := by decide +kernel
theorem dX2_init_13 : decode cX2_init 13 = .ok (.sipush 128, 3) := by decide +kernel
theorem dX2_init_16 : decode cX2_init 16 = .ok (.newarray .long, 2) := by decide +kernel
theorem dX2_init_18 : decode cX2_init 18 = .ok (.putfield 15, 3) := by decide +kernel
theorem dX2_init_21 : decode cX2_init 21 = .ok (.return_, 1) := by decide +kernel
theorem dX2_shuffle_0 : decode cX2_shuffle 0 = .ok (.iconst 0, 1) := by decide +kernel
theorem dX2_shuffle_1 : decode cX2_shuffle 1 = .ok (.istore_n 3, 1) := by decide +kernel
theorem dX2_shuffle_2 : decode cX2_shuffle 2 = .ok (.iload_n 3, 1) := by decide +kernel
theorem dX2_shuffle_3 : decode cX2_shuffle 3 = .ok (.iload_n 2, 1) := by decide +kernel
theorem dX2_shuffle_4 : decode cX2_shuffle 4 = .ok (.if_icmp .ge 16, 3) := by decide +kernel
theorem dX2_shuffle_7 : decode cX2_shuffle 7 = .ok (.aload_n 0, 1) := by decide +kernel
theorem dX2_shuffle_8 : decode cX2_shuffle 8 = .ok (.getfield 9, 3) := by decide +kernel
theorem dX2_shuffle_11 : decode cX2_shuffle 11 = .ok (.iload_n 3, 1) := by decide +kernel
theorem dX2_shuffle_12 : decode cX2_shuffle 12 = .ok (.iload_n 3, 1) := by decide +kernel
theorem dX2_shuffle_13 : decode cX2_shuffle 13 = .ok (.iastore, 1) := by decide +kernel
theorem dX2_shuffle_14 : decode cX2_shuffle 14 = .ok (.iinc 3 1, 3) := by decide +kernel
theorem dX2_shuffle_17 : decode cX2_shuffle 17 = .ok (.goto (-15), 3) := by decide +kernel
theorem dX2_shuffle_20 : decode cX2_shuffle 20 = .ok (.iload_n 1, 1) := by decide +kernel
theorem dX2_shuffle_21 : decode cX2_shuffle 21 = .ok (.istore_n 3, 1) := by decide +kernel
theorem dX2_shuffle_22 : decode cX2_shuffle 22 = .ok (.iload_n 2, 1) := by decide +kernel
theorem dX2_shuffle_23 : decode cX2_shuffle 23 = .ok (.iconst 1, 1) := by decide +kernel
theorem dX2_shuffle_24 : decode cX2_shuffle 24 = .ok (.isub, 1) := by decide +kernel
theorem dX2_shuffle_25 : decode cX2_shuffle 25 = .ok (.istore 4, 2) := by decide +kernel
theorem dX2_shuffle_27 : decode cX2_shuffle 27 = .ok (.iload 4, 2) := by decide +kernel
theorem dX2_shuffle_29 : decode cX2_shuffle 29 = .ok (.iconst 1, 1) := by decide +kernel
theorem dX2_shuffle_30 : decode cX2_shuffle 30 = .ok (.if_icmp .lt 61, 3) := by decide +kernel
theorem dX2_shuffle_33 : decode cX2_shuffle 33 = .ok (.iload_n 3, 1) := by decide +kernel
theorem dX2_shuffle_34 : decode cX2_shuffle 34 = .ok (.ldc 19, 2) := by decide +kernel
theorem dX2_shuffle_36 : decode cX2_shuffle 36 = .ok (.imul, 1) := by decide +kernel
theorem dX2_shuffle_37 : decode cX2_shuffle 37 = .ok (.sipush 12345, 3) := by decide +kernel
theorem dX2_shuffle_40 : decode cX2_shuffle 40 = .ok (.iadd, 1) := by decide +kernel
theorem dX2_shuffle_41 : decode cX2_shuffle 41 = .ok (.istore_n 3, 1) := by decide +kernel
theorem dX2_shuffle_42 : decode cX2_shuffle 42 = .ok (.iload_n 3, 1) := by decide +kernel
theorem dX2_shuffle_43 : decode cX2_shuffle 43 = .ok (.bipush 16, 2) := by decide +kernel
theorem dX2_shuffle_45 : decode cX2_shuffle 45 = .ok (.iushr, 1) := by decide +kernel
theorem dX2_shuffle_46 : decode cX2_shuffle 46 = .ok (.iload 4, 2) := by decide +kernel
theorem dX2_shuffle_48 : decode cX2_shuffle 48 = .ok (.iconst 1, 1) := by decide +kernel
theorem dX2_shuffle_49 : decode cX2_shuffle 49 = .ok (.iadd, 1) := by decide +kernel
theorem dX2_shuffle_50 : decode cX2_shuffle 50 = .ok (.irem, 1) := by decide +kernel
theorem dX2_shuffle_51 : decode cX2_shuffle 51 = .ok (.istore 5, 2) := by decide +kernel
theorem dX2_shuffle_53 : decode cX2_shuffle 53 = .ok (.aload_n 0, 1) := by decide +kernel
theorem dX2_shuffle_54 : decode cX2_shuffle 54 = .ok (.getfield 9, 3) := by decide +kernel
theorem dX2_shuffle_57 : decode cX2_shuffle 57 = .ok (.iload 4, 2) := by decide +kernel
theorem dX2_shuffle_59 : decode cX2_shuffle 59 = .ok (.iaload, 1) := by decide +kernel
theorem dX2_shuffle_60 : decode cX2_shuffle 60 = .ok (.istore 6, 2) := by decide +kernel
theorem dX2_shuffle_62 : decode cX2_shuffle 62 = .ok (.aload_n 0, 1) := by decide +kernel
theorem dX2_shuffle_63 : decode cX2_shuffle 63 = .ok (.getfield 9, 3) := by decide +kernel
theorem dX2_shuffle_66 : decode cX2_shuffle 66 = .ok (.iload 4, 2) := by decide +kernel
theorem dX2_shuffle_68 : decode cX2_shuffle 68 = .ok (.aload_n 0, 1) := by decide +kernel
theorem dX2_shuffle_69 : decode cX2_shuffle 69 = .ok (.getfield 9, 3) := by decide +kernel
theorem dX2_shuffle_72 : decode cX2_shuffle 72 = .ok (.iload 5, 2) := by decide +kernel
theorem dX2_shuffle_74 : decode cX2_shuffle 74 = .ok (.iaload, 1) := by decide +kernel
theorem dX2_shuffle_75 : decode cX2_shuffle 75 = .ok (.iastore, 1) := by decide +kernel
theorem dX2_shuffle_76 : decode cX2_shuffle 76 = .ok (.aload_n 0, 1) := by decide +kernel
theorem dX2_shuffle_77 : decode cX2_shuffle 77 = .ok (.getfield 9, 3) := by decide +kernel
theorem dX2_shuffle_80 : decode cX2_shuffle 80 = .ok (.iload 5, 2) := by decide +kernel
theorem dX2_shuffle_82 : decode cX2_shuffle 82 = .ok (.iload 6, 2) := by decide +kernel
theorem dX2_shuffle_84 : decode cX2_shuffle 84 = .ok (.iastore, 1) := by decide +kernel
theorem dX2_shuffle_85 : decode cX2_shuffle 85 = .ok (.iinc 4 (-1), 3) := by decide +kernel
theorem dX2_shuffle_88 : decode cX2_shuffle 88 = .ok (.goto (-61), 3) := by decide +kernel
theorem dX2_shuffle_91 : decode cX2_shuffle 91 = .ok (.return_, 1) := by decide +kernel
theorem dX2_gather_0 : decode cX2_gather 0 = .ok (.aload_n 1, 1) := by decide +kernel
theorem dX2_gather_1 : decode cX2_gather 1 = .ok (.getfield 20, 3) := by decide +kernel
theorem dX2_gather_4 : decode cX2_gather 4 = .ok (.astore_n 2, 1) := by decide +kernel
theorem dX2_gather_5 : decode cX2_gather 5 = .ok (.iconst 1, 1) := by decide +kernel
theorem dX2_gather_6 : decode cX2_gather 6 = .ok (.aload_n 1, 1) := by decide +kernel
theorem dX2_gather_7 : decode cX2_gather 7 = .ok (.getfield 26, 3) := by decide +kernel
theorem dX2_gather_10 : decode cX2_gather 10 = .ok (.ishl, 1) := by decide +kernel
theorem dX2_gather_11 : decode cX2_gather 11 = .ok (.iconst 1, 1) := by decide +kernel
theorem dX2_gather_12 : decode cX2_gather 12 = .ok (.isub, 1) := by decide +kernel
theorem dX2_gather_13 : decode cX2_gather 13 = .ok (.istore_n 3, 1) := by decide +kernel
theorem dX2_gather_14 : decode cX2_gather 14 = .ok (.iconst 0, 1) := by decide +kernel
theorem dX2_gather_15 : decode cX2_gather 15 = .ok (.istore 4, 2) := by decide +kernel
theorem dX2_gather_17 : decode cX2_gather 17 = .ok (.iconst 0, 1) := by decide +kernel
theorem dX2_gather_18 : decode cX2_gather 18 = .ok (.istore 5, 2) := by decide +kernel
theorem dX2_gather_20 : decode cX2_gather 20 = .ok (.iload 5, 2) := by decide +kernel
theorem dX2_gather_22 : decode cX2_gather 22 = .ok (.aload_n 1, 1) := by decide +kernel
theorem dX2_gather_23 : decode cX2_gather 23 = .ok (.getfield 26, 3) := by decide +kernel
theorem dX2_gather_26 : decode cX2_gather 26 = .ok (.if_icmp .ge 87, 3) := by decide +kernel
theorem dX2_gather_29 : decode cX2_gather 29 = .ok (.iload_n 3, 1) := by decide +kernel
theorem dX2_gather_30 : decode cX2_gather 30 = .ok (.aload_n 0, 1) := by decide +kernel
theorem dX2_gather_31 : decode cX2_gather 31 = .ok (.getfield 9, 3) := by decide +kernel
theorem dX2_gather_34 : decode cX2_gather 34 = .ok (.iload 5, 2) := by decide +kernel
theorem dX2_gather_36 : decode cX2_gather 36 = .ok (.iaload, 1) := by decide +kernel
theorem dX2_gather_37 : decode cX2_gather 37 = .ok (.invokestatic 30, 3) := by decide +kernel
theorem dX2_gather_40 : decode cX2_gather 40 = .ok (.ifCond .ne 6, 3) := by decide +kernel
theorem dX2_gather_43 : decode cX2_gather 43 = .ok (.goto 64, 3) := by decide +kernel
theorem dX2_gather_46 : decode cX2_gather 46 = .ok (.aload_n 1, 1) := by decide +kernel
theorem dX2_gather_47 : decode cX2_gather 47 = .ok (.aload_n 0, 1) := by decide +kernel
theorem dX2_gather_48 : decode cX2_gather 48 = .ok (.getfield 9, 3) := by decide +kernel
theorem dX2_gather_51 : decode cX2_gather 51 = .ok (.iload 5, 2) := by decide +kernel
theorem dX2_gather_53 : decode cX2_gather 53 = .ok (.iaload, 1) := by decide +kernel
theorem dX2_gather_54 : decode cX2_gather 54 = .ok (.iload_n 3, 1) := by decide +kernel
theorem dX2_gather_55 : decode cX2_gather 55 = .ok (.invokestatic 36, 3) := by decide +kernel
theorem dX2_gather_58 : decode cX2_gather 58 = .ok (.istore 6, 2) := by decide +kernel
theorem dX2_gather_60 : decode cX2_gather 60 = .ok (.iconst 0, 1) := by decide +kernel
theorem dX2_gather_61 : decode cX2_gather 61 = .ok (.istore 7, 2) := by decide +kernel
theorem dX2_gather_63 : decode cX2_gather 63 = .ok (.iload 7, 2) := by decide +kernel
theorem dX2_gather_65 : decode cX2_gather 65 = .ok (.aload_n 1, 1) := by decide +kernel
theorem dX2_gather_66 : decode cX2_gather 66 = .ok (.getfield 26, 3) := by decide +kernel
theorem dX2_gather_69 : decode cX2_gather 69 = .ok (.if_icmp .ge 28, 3) := by decide +kernel
theorem dX2_gather_72 : decode cX2_gather 72 = .ok (.iload 6, 2) := by decide +kernel
theorem dX2_gather_74 : decode cX2_gather 74 = .ok (.iload 7, 2) := by decide +kernel
theorem dX2_gather_76 : decode cX2_gather 76 = .ok (.invokestatic 30, 3) := by decide +kernel
theorem dX2_gather_79 : decode cX2_gather 79 = .ok (.ifCond .eq 12, 3) := by decide +kernel
theorem dX2_gather_82 : decode cX2_gather 82 = .ok (.aload_n 2, 1) := by decide +kernel
theorem dX2_gather_83 : decode cX2_gather 83 = .ok (.getfield 40, 3) := by decide +kernel
theorem dX2_gather_86 : decode cX2_gather 86 = .ok (.iload 7, 2) := by decide +kernel
theorem dX2_gather_88 : decode cX2_gather 88 = .ok (.iload 4, 2) := by decide +kernel
theorem dX2_gather_90 : decode cX2_gather 90 = .ok (.iastore, 1) := by decide +kernel
theorem dX2_gather_91 : decode cX2_gather 91 = .ok (.iinc 7 1, 3) := by decide +kernel
theorem dX2_gather_94 : decode cX2_gather 94 = .ok (.goto (-31), 3) := by decide +kernel
theorem dX2_gather_97 : decode cX2_gather 97 = .ok (.iload_n 3, 1) := by decide +kernel
theorem dX2_gather_98 : decode cX2_gather 98 = .ok (.iload 6, 2) := by decide +kernel
theorem dX2_gather_100 : decode cX2_gather 100 = .ok (.iconst (-1), 1) := by decide +kernel
theorem dX2_gather_101 : decode cX2_gather 101 = .ok (.ixor, 1) := by decide +kernel
theorem dX2_gather_102 : decode cX2_gather 102 = .ok (.iand, 1) := by decide +kernel
theorem dX2_gather_103 : decode cX2_gather 103 = .ok (.istore_n 3, 1) := by decide +kernel
theorem dX2_gather_104 : decode cX2_gather 104 = .ok (.iinc 4 1, 3) := by decide +kernel
theorem dX2_gather_107 : decode cX2_gather 107 = .ok (.iinc 5 1, 3) := by decide +kernel
theorem dX2_gather_110 : decode cX2_gather 110 = .ok (.goto (-90), 3) := by decide +kernel
theorem dX2_gather_113 : decode cX2_gather 113 = .ok (.aload_n 2, 1) := by decide +kernel
theorem dX2_gather_114 : decode cX2_gather 114 = .ok (.invokevirtual 45, 3) := by decide +kernel
theorem dX2_gather_117 : decode cX2_gather 117 = .ok (.return_, 1) := by decide +kernel
theorem dX2_likedBy_0 : decode cX2_likedBy 0 = .ok (.iconst 1, 1) := by decide +kernel
theorem dX2_likedBy_1 : decode cX2_likedBy 1 = .ok (.iload_n 1, 1) := by decide +kernel
theorem dX2_likedBy_2 : decode cX2_likedBy 2 = .ok (.ishl, 1) := by decide +kernel
theorem dX2_likedBy_3 : decode cX2_likedBy 3 = .ok (.istore_n 3, 1) := by decide +kernel
theorem dX2_likedBy_4 : decode cX2_likedBy 4 = .ok (.iconst 0, 1) := by decide +kernel
theorem dX2_likedBy_5 : decode cX2_likedBy 5 = .ok (.istore 4, 2) := by decide +kernel
theorem dX2_likedBy_7 : decode cX2_likedBy 7 = .ok (.iload 4, 2) := by decide +kernel
theorem dX2_likedBy_9 : decode cX2_likedBy 9 = .ok (.aload_n 0, 1) := by decide +kernel
theorem dX2_likedBy_10 : decode cX2_likedBy 10 = .ok (.getfield 26, 3) := by decide +kernel
theorem dX2_likedBy_13 : decode cX2_likedBy 13 = .ok (.if_icmp .ge 35, 3) := by decide +kernel
theorem dX2_likedBy_16 : decode cX2_likedBy 16 = .ok (.iload_n 2, 1) := by decide +kernel
theorem dX2_likedBy_17 : decode cX2_likedBy 17 = .ok (.iload 4, 2) := by decide +kernel
theorem dX2_likedBy_19 : decode cX2_likedBy 19 = .ok (.invokestatic 30, 3) := by decide +kernel
theorem dX2_likedBy_22 : decode cX2_likedBy 22 = .ok (.ifCond .eq 20, 3) := by decide +kernel
theorem dX2_likedBy_25 : decode cX2_likedBy 25 = .ok (.aload_n 0, 1) := by decide +kernel
theorem dX2_likedBy_26 : decode cX2_likedBy 26 = .ok (.iload_n 1, 1) := by decide +kernel
theorem dX2_likedBy_27 : decode cX2_likedBy 27 = .ok (.iload 4, 2) := by decide +kernel
theorem dX2_likedBy_29 : decode cX2_likedBy 29 = .ok (.invokevirtual 48, 3) := by decide +kernel
theorem dX2_likedBy_32 : decode cX2_likedBy 32 = .ok (.ifCond .eq 10, 3) := by decide +kernel
theorem dX2_likedBy_35 : decode cX2_likedBy 35 = .ok (.iload_n 3, 1) := by decide +kernel
theorem dX2_likedBy_36 : decode cX2_likedBy 36 = .ok (.iconst 1, 1) := by decide +kernel
theorem dX2_likedBy_37 : decode cX2_likedBy 37 = .ok (.iload 4, 2) := by decide +kernel
theorem dX2_likedBy_39 : decode cX2_likedBy 39 = .ok (.ishl, 1) := by decide +kernel
theorem dX2_likedBy_40 : decode cX2_likedBy 40 = .ok (.ior, 1) := by decide +kernel
theorem dX2_likedBy_41 : decode cX2_likedBy 41 = .ok (.istore_n 3, 1) := by decide +kernel
theorem dX2_likedBy_42 : decode cX2_likedBy 42 = .ok (.iinc 4 1, 3) := by decide +kernel
theorem dX2_likedBy_45 : decode cX2_likedBy 45 = .ok (.goto (-38), 3) := by decide +kernel
theorem dX2_likedBy_48 : decode cX2_likedBy 48 = .ok (.iload_n 3, 1) := by decide +kernel
theorem dX2_likedBy_49 : decode cX2_likedBy 49 = .ok (.ireturn, 1) := by decide +kernel
theorem dX2_sumOverOrders_0 : decode cX2_sumOverOrders 0 = .ok (.iconst 1, 1) := by decide +kernel
theorem dX2_sumOverOrders_1 : decode cX2_sumOverOrders 1 = .ok (.aload_n 1, 1) := by decide +kernel
theorem dX2_sumOverOrders_2 : decode cX2_sumOverOrders 2 = .ok (.getfield 26, 3) := by decide +kernel
theorem dX2_sumOverOrders_5 : decode cX2_sumOverOrders 5 = .ok (.ishl, 1) := by decide +kernel
theorem dX2_sumOverOrders_6 : decode cX2_sumOverOrders 6 = .ok (.aload_n 0, 1) := by decide +kernel
theorem dX2_sumOverOrders_7 : decode cX2_sumOverOrders 7 = .ok (.getfield 15, 3) := by decide +kernel
theorem dX2_sumOverOrders_10 : decode cX2_sumOverOrders 10 = .ok (.arraylength, 1) := by decide +kernel
theorem dX2_sumOverOrders_11 : decode cX2_sumOverOrders 11 = .ok (.invokestatic 51, 3) := by decide +kernel
theorem dX2_sumOverOrders_14 : decode cX2_sumOverOrders 14 = .ok (.istore_n 2, 1) := by decide +kernel
theorem dX2_sumOverOrders_15 : decode cX2_sumOverOrders 15 = .ok (.aload_n 0, 1) := by decide +kernel
theorem dX2_sumOverOrders_16 : decode cX2_sumOverOrders 16 = .ok (.getfield 15, 3) := by decide +kernel
theorem dX2_sumOverOrders_19 : decode cX2_sumOverOrders 19 = .ok (.iconst 0, 1) := by decide +kernel
theorem dX2_sumOverOrders_20 : decode cX2_sumOverOrders 20 = .ok (.lconst 0, 1) := by decide +kernel
theorem dX2_sumOverOrders_21 : decode cX2_sumOverOrders 21 = .ok (.lastore, 1) := by decide +kernel
theorem dX2_sumOverOrders_22 : decode cX2_sumOverOrders 22 = .ok (.iconst 1, 1) := by decide +kernel
theorem dX2_sumOverOrders_23 : decode cX2_sumOverOrders 23 = .ok (.istore_n 3, 1) := by decide +kernel
theorem dX2_sumOverOrders_24 : decode cX2_sumOverOrders 24 = .ok (.iload_n 3, 1) := by decide +kernel
theorem dX2_sumOverOrders_25 : decode cX2_sumOverOrders 25 = .ok (.iload_n 2, 1) := by decide +kernel
theorem dX2_sumOverOrders_26 : decode cX2_sumOverOrders 26 = .ok (.if_icmp .ge 21, 3) := by decide +kernel
theorem dX2_sumOverOrders_29 : decode cX2_sumOverOrders 29 = .ok (.aload_n 0, 1) := by decide +kernel
theorem dX2_sumOverOrders_30 : decode cX2_sumOverOrders 30 = .ok (.getfield 15, 3) := by decide +kernel
theorem dX2_sumOverOrders_33 : decode cX2_sumOverOrders 33 = .ok (.iload_n 3, 1) := by decide +kernel
theorem dX2_sumOverOrders_34 : decode cX2_sumOverOrders 34 = .ok (.aload_n 0, 1) := by decide +kernel
theorem dX2_sumOverOrders_35 : decode cX2_sumOverOrders 35 = .ok (.aload_n 1, 1) := by decide +kernel
theorem dX2_sumOverOrders_36 : decode cX2_sumOverOrders 36 = .ok (.iload_n 3, 1) := by decide +kernel
theorem dX2_sumOverOrders_37 : decode cX2_sumOverOrders 37 = .ok (.invokevirtual 57, 3) := by decide +kernel
theorem dX2_sumOverOrders_40 : decode cX2_sumOverOrders 40 = .ok (.lastore, 1) := by decide +kernel
theorem dX2_sumOverOrders_41 : decode cX2_sumOverOrders 41 = .ok (.iinc 3 1, 3) := by decide +kernel
theorem dX2_sumOverOrders_44 : decode cX2_sumOverOrders 44 = .ok (.goto (-20), 3) := by decide +kernel
theorem dX2_sumOverOrders_47 : decode cX2_sumOverOrders 47 = .ok (.aload_n 0, 1) := by decide +kernel
theorem dX2_sumOverOrders_48 : decode cX2_sumOverOrders 48 = .ok (.getfield 15, 3) := by decide +kernel
theorem dX2_sumOverOrders_51 : decode cX2_sumOverOrders 51 = .ok (.iload_n 2, 1) := by decide +kernel
theorem dX2_sumOverOrders_52 : decode cX2_sumOverOrders 52 = .ok (.iconst 1, 1) := by decide +kernel
theorem dX2_sumOverOrders_53 : decode cX2_sumOverOrders 53 = .ok (.isub, 1) := by decide +kernel
theorem dX2_sumOverOrders_54 : decode cX2_sumOverOrders 54 = .ok (.laload, 1) := by decide +kernel
theorem dX2_sumOverOrders_55 : decode cX2_sumOverOrders 55 = .ok (.lreturn, 1) := by decide +kernel
theorem dX2_sumOver_0 : decode cX2_sumOver 0 = .ok (.getstatic 61, 3) := by decide +kernel
theorem dX2_sumOver_3 : decode cX2_sumOver 3 = .ok (.iload_n 2, 1) := by decide +kernel
theorem dX2_sumOver_4 : decode cX2_sumOver 4 = .ok (.invokestatic 64, 3) := by decide +kernel
theorem dX2_sumOver_7 : decode cX2_sumOver 7 = .ok (.iconst 1, 1) := by decide +kernel
theorem dX2_sumOver_8 : decode cX2_sumOver 8 = .ok (.isub, 1) := by decide +kernel
theorem dX2_sumOver_9 : decode cX2_sumOver 9 = .ok (.iaload, 1) := by decide +kernel
theorem dX2_sumOver_10 : decode cX2_sumOver 10 = .ok (.istore_n 3, 1) := by decide +kernel
theorem dX2_sumOver_11 : decode cX2_sumOver 11 = .ok (.lconst 0, 1) := by decide +kernel
theorem dX2_sumOver_12 : decode cX2_sumOver 12 = .ok (.lstore 4, 2) := by decide +kernel
theorem dX2_sumOver_14 : decode cX2_sumOver 14 = .ok (.iconst 0, 1) := by decide +kernel
theorem dX2_sumOver_15 : decode cX2_sumOver 15 = .ok (.istore 6, 2) := by decide +kernel
theorem dX2_sumOver_17 : decode cX2_sumOver 17 = .ok (.iload 6, 2) := by decide +kernel
theorem dX2_sumOver_19 : decode cX2_sumOver 19 = .ok (.aload_n 1, 1) := by decide +kernel
theorem dX2_sumOver_20 : decode cX2_sumOver 20 = .ok (.getfield 26, 3) := by decide +kernel
theorem dX2_sumOver_23 : decode cX2_sumOver 23 = .ok (.if_icmp .ge 76, 3) := by decide +kernel
theorem dX2_sumOver_26 : decode cX2_sumOver 26 = .ok (.iload_n 2, 1) := by decide +kernel
theorem dX2_sumOver_27 : decode cX2_sumOver 27 = .ok (.iload 6, 2) := by decide +kernel
theorem dX2_sumOver_29 : decode cX2_sumOver 29 = .ok (.invokestatic 30, 3) := by decide +kernel
theorem dX2_sumOver_32 : decode cX2_sumOver 32 = .ok (.ifCond .eq 61, 3) := by decide +kernel
theorem dX2_sumOver_35 : decode cX2_sumOver 35 = .ok (.aload_n 1, 1) := by decide +kernel
theorem dX2_sumOver_36 : decode cX2_sumOver 36 = .ok (.iload 6, 2) := by decide +kernel
theorem dX2_sumOver_38 : decode cX2_sumOver 38 = .ok (.iload_n 2, 1) := by decide +kernel
theorem dX2_sumOver_39 : decode cX2_sumOver 39 = .ok (.invokestatic 36, 3) := by decide +kernel
theorem dX2_sumOver_42 : decode cX2_sumOver 42 = .ok (.istore 7, 2) := by decide +kernel
theorem dX2_sumOver_44 : decode cX2_sumOver 44 = .ok (.iload_n 2, 1) := by decide +kernel
theorem dX2_sumOver_45 : decode cX2_sumOver 45 = .ok (.iload 7, 2) := by decide +kernel
theorem dX2_sumOver_47 : decode cX2_sumOver 47 = .ok (.iconst (-1), 1) := by decide +kernel
theorem dX2_sumOver_48 : decode cX2_sumOver 48 = .ok (.ixor, 1) := by decide +kernel
theorem dX2_sumOver_49 : decode cX2_sumOver 49 = .ok (.iand, 1) := by decide +kernel
theorem dX2_sumOver_50 : decode cX2_sumOver 50 = .ok (.istore 8, 2) := by decide +kernel
theorem dX2_sumOver_52 : decode cX2_sumOver 52 = .ok (.iload_n 3, 1) := by decide +kernel
theorem dX2_sumOver_53 : decode cX2_sumOver 53 = .ok (.getstatic 61, 3) := by decide +kernel
theorem dX2_sumOver_56 : decode cX2_sumOver 56 = .ok (.iload 8, 2) := by decide +kernel
theorem dX2_sumOver_58 : decode cX2_sumOver 58 = .ok (.invokestatic 64, 3) := by decide +kernel
theorem dX2_sumOver_61 : decode cX2_sumOver 61 = .ok (.iaload, 1) := by decide +kernel
theorem dX2_sumOver_62 : decode cX2_sumOver 62 = .ok (.idiv, 1) := by decide +kernel
theorem dX2_sumOver_63 : decode cX2_sumOver 63 = .ok (.istore 9, 2) := by decide +kernel
theorem dX2_sumOver_65 : decode cX2_sumOver 65 = .ok (.lload 4, 2) := by decide +kernel
theorem dX2_sumOver_67 : decode cX2_sumOver 67 = .ok (.iload_n 3, 1) := by decide +kernel
theorem dX2_sumOver_68 : decode cX2_sumOver 68 = .ok (.i2l, 1) := by decide +kernel
theorem dX2_sumOver_69 : decode cX2_sumOver 69 = .ok (.aload_n 1, 1) := by decide +kernel
theorem dX2_sumOver_70 : decode cX2_sumOver 70 = .ok (.iload 7, 2) := by decide +kernel
theorem dX2_sumOver_72 : decode cX2_sumOver 72 = .ok (.iload 8, 2) := by decide +kernel
theorem dX2_sumOver_74 : decode cX2_sumOver 74 = .ok (.invokestatic 70, 3) := by decide +kernel
theorem dX2_sumOver_77 : decode cX2_sumOver 77 = .ok (.lmul, 1) := by decide +kernel
theorem dX2_sumOver_78 : decode cX2_sumOver 78 = .ok (.iload 9, 2) := by decide +kernel
theorem dX2_sumOver_80 : decode cX2_sumOver 80 = .ok (.i2l, 1) := by decide +kernel
theorem dX2_sumOver_81 : decode cX2_sumOver 81 = .ok (.aload_n 0, 1) := by decide +kernel
theorem dX2_sumOver_82 : decode cX2_sumOver 82 = .ok (.getfield 15, 3) := by decide +kernel
theorem dX2_sumOver_85 : decode cX2_sumOver 85 = .ok (.iload 8, 2) := by decide +kernel
theorem dX2_sumOver_87 : decode cX2_sumOver 87 = .ok (.laload, 1) := by decide +kernel
theorem dX2_sumOver_88 : decode cX2_sumOver 88 = .ok (.lmul, 1) := by decide +kernel
theorem dX2_sumOver_89 : decode cX2_sumOver 89 = .ok (.ladd, 1) := by decide +kernel
theorem dX2_sumOver_90 : decode cX2_sumOver 90 = .ok (.ladd, 1) := by decide +kernel
theorem dX2_sumOver_91 : decode cX2_sumOver 91 = .ok (.lstore 4, 2) := by decide +kernel
theorem dX2_sumOver_93 : decode cX2_sumOver 93 = .ok (.iinc 6 1, 3) := by decide +kernel
theorem dX2_sumOver_96 : decode cX2_sumOver 96 = .ok (.goto (-79), 3) := by decide +kernel
theorem dX2_sumOver_99 : decode cX2_sumOver 99 = .ok (.lload 4, 2) := by decide +kernel
theorem dX2_sumOver_101 : decode cX2_sumOver 101 = .ok (.lreturn, 1) := by decide +kernel
theorem dX2_costOfTaking_0 : decode cX2_costOfTaking 0 = .ok (.lconst 0, 1) := by decide +kernel
theorem dX2_costOfTaking_1 : decode cX2_costOfTaking 1 = .ok (.lstore_n 3, 1) := by decide +kernel
theorem dX2_costOfTaking_2 : decode cX2_costOfTaking 2 = .ok (.iconst 0, 1) := by decide +kernel
theorem dX2_costOfTaking_3 : decode cX2_costOfTaking 3 = .ok (.istore 5, 2) := by decide +kernel
theorem dX2_costOfTaking_5 : decode cX2_costOfTaking 5 = .ok (.iload 5, 2) := by decide +kernel
theorem dX2_costOfTaking_7 : decode cX2_costOfTaking 7 = .ok (.aload_n 0, 1) := by decide +kernel
theorem dX2_costOfTaking_8 : decode cX2_costOfTaking 8 = .ok (.getfield 26, 3) := by decide +kernel
theorem dX2_costOfTaking_11 : decode cX2_costOfTaking 11 = .ok (.if_icmp .ge 124, 3) := by decide +kernel
theorem dX2_costOfTaking_14 : decode cX2_costOfTaking 14 = .ok (.iconst 0, 1) := by decide +kernel
theorem dX2_costOfTaking_15 : decode cX2_costOfTaking 15 = .ok (.istore 6, 2) := by decide +kernel
theorem dX2_costOfTaking_17 : decode cX2_costOfTaking 17 = .ok (.iload 6, 2) := by decide +kernel
theorem dX2_costOfTaking_19 : decode cX2_costOfTaking 19 = .ok (.aload_n 0, 1) := by decide +kernel
theorem dX2_costOfTaking_20 : decode cX2_costOfTaking 20 = .ok (.getfield 26, 3) := by decide +kernel
theorem dX2_costOfTaking_23 : decode cX2_costOfTaking 23 = .ok (.if_icmp .ge 106, 3) := by decide +kernel
theorem dX2_costOfTaking_26 : decode cX2_costOfTaking 26 = .ok (.iload_n 1, 1) := by decide +kernel
theorem dX2_costOfTaking_27 : decode cX2_costOfTaking 27 = .ok (.iload 5, 2) := by decide +kernel
theorem dX2_costOfTaking_29 : decode cX2_costOfTaking 29 = .ok (.invokestatic 30, 3) := by decide +kernel
theorem dX2_costOfTaking_32 : decode cX2_costOfTaking 32 = .ok (.ifCond .eq 97, 3) := by decide +kernel
theorem dX2_costOfTaking_35 : decode cX2_costOfTaking 35 = .ok (.iload 6, 2) := by decide +kernel
theorem dX2_costOfTaking_37 : decode cX2_costOfTaking 37 = .ok (.iload 5, 2) := by decide +kernel
theorem dX2_costOfTaking_39 : decode cX2_costOfTaking 39 = .ok (.if_icmp .ge 27, 3) := by decide +kernel
theorem dX2_costOfTaking_42 : decode cX2_costOfTaking 42 = .ok (.iload_n 1, 1) := by decide +kernel
theorem dX2_costOfTaking_43 : decode cX2_costOfTaking 43 = .ok (.iload 6, 2) := by decide +kernel
theorem dX2_costOfTaking_45 : decode cX2_costOfTaking 45 = .ok (.invokestatic 30, 3) := by decide +kernel
theorem dX2_costOfTaking_48 : decode cX2_costOfTaking 48 = .ok (.ifCond .eq 18, 3) := by decide +kernel
theorem dX2_costOfTaking_51 : decode cX2_costOfTaking 51 = .ok (.aload_n 0, 1) := by decide +kernel
theorem dX2_costOfTaking_52 : decode cX2_costOfTaking 52 = .ok (.iload 5, 2) := by decide +kernel
theorem dX2_costOfTaking_54 : decode cX2_costOfTaking 54 = .ok (.iload 6, 2) := by decide +kernel
theorem dX2_costOfTaking_56 : decode cX2_costOfTaking 56 = .ok (.invokevirtual 74, 3) := by decide +kernel
theorem dX2_costOfTaking_59 : decode cX2_costOfTaking 59 = .ok (.ifCond .ne 7, 3) := by decide +kernel
theorem dX2_costOfTaking_62 : decode cX2_costOfTaking 62 = .ok (.iconst 1, 1) := by decide +kernel
theorem dX2_costOfTaking_63 : decode cX2_costOfTaking 63 = .ok (.goto 4, 3) := by decide +kernel
theorem dX2_costOfTaking_66 : decode cX2_costOfTaking 66 = .ok (.iconst 0, 1) := by decide +kernel
theorem dX2_costOfTaking_67 : decode cX2_costOfTaking 67 = .ok (.istore 7, 2) := by decide +kernel
theorem dX2_costOfTaking_69 : decode cX2_costOfTaking 69 = .ok (.iload_n 2, 1) := by decide +kernel
theorem dX2_costOfTaking_70 : decode cX2_costOfTaking 70 = .ok (.iload 6, 2) := by decide +kernel
theorem dX2_costOfTaking_72 : decode cX2_costOfTaking 72 = .ok (.invokestatic 30, 3) := by decide +kernel
theorem dX2_costOfTaking_75 : decode cX2_costOfTaking 75 = .ok (.ifCond .eq 19, 3) := by decide +kernel
theorem dX2_costOfTaking_78 : decode cX2_costOfTaking 78 = .ok (.aload_n 0, 1) := by decide +kernel
theorem dX2_costOfTaking_79 : decode cX2_costOfTaking 79 = .ok (.iload 5, 2) := by decide +kernel
theorem dX2_costOfTaking_81 : decode cX2_costOfTaking 81 = .ok (.iload 6, 2) := by decide +kernel
theorem dX2_costOfTaking_83 : decode cX2_costOfTaking 83 = .ok (.invokevirtual 74, 3) := by decide +kernel
theorem dX2_costOfTaking_86 : decode cX2_costOfTaking 86 = .ok (.iconst 1, 1) := by decide +kernel
theorem dX2_costOfTaking_87 : decode cX2_costOfTaking 87 = .ok (.if_icmp .ne 7, 3) := by decide +kernel
theorem dX2_costOfTaking_90 : decode cX2_costOfTaking 90 = .ok (.iconst 1, 1) := by decide +kernel
theorem dX2_costOfTaking_91 : decode cX2_costOfTaking 91 = .ok (.goto 4, 3) := by decide +kernel
theorem dX2_costOfTaking_94 : decode cX2_costOfTaking 94 = .ok (.iconst 0, 1) := by decide +kernel
theorem dX2_costOfTaking_95 : decode cX2_costOfTaking 95 = .ok (.istore 8, 2) := by decide +kernel
theorem dX2_costOfTaking_97 : decode cX2_costOfTaking 97 = .ok (.lload_n 3, 1) := by decide +kernel
theorem dX2_costOfTaking_98 : decode cX2_costOfTaking 98 = .ok (.iload 7, 2) := by decide +kernel
theorem dX2_costOfTaking_100 : decode cX2_costOfTaking 100 = .ok (.ifCond .ne 8, 3) := by decide +kernel
theorem dX2_costOfTaking_103 : decode cX2_costOfTaking 103 = .ok (.iload 8, 2) := by decide +kernel
theorem dX2_costOfTaking_105 : decode cX2_costOfTaking 105 = .ok (.ifCond .eq 15, 3) := by decide +kernel
theorem dX2_costOfTaking_108 : decode cX2_costOfTaking 108 = .ok (.aload_n 0, 1) := by decide +kernel
theorem dX2_costOfTaking_109 : decode cX2_costOfTaking 109 = .ok (.iload 5, 2) := by decide +kernel
theorem dX2_costOfTaking_111 : decode cX2_costOfTaking 111 = .ok (.iload 6, 2) := by decide +kernel
theorem dX2_costOfTaking_113 : decode cX2_costOfTaking 113 = .ok (.invokevirtual 77, 3) := by decide +kernel
theorem dX2_costOfTaking_116 : decode cX2_costOfTaking 116 = .ok (.i2l, 1) := by decide +kernel
theorem dX2_costOfTaking_117 : decode cX2_costOfTaking 117 = .ok (.goto 4, 3) := by decide +kernel
theorem dX2_costOfTaking_120 : decode cX2_costOfTaking 120 = .ok (.lconst 0, 1) := by decide +kernel
theorem dX2_costOfTaking_121 : decode cX2_costOfTaking 121 = .ok (.ladd, 1) := by decide +kernel
theorem dX2_costOfTaking_122 : decode cX2_costOfTaking 122 = .ok (.lstore_n 3, 1) := by decide +kernel
theorem dX2_costOfTaking_123 : decode cX2_costOfTaking 123 = .ok (.iinc 6 1, 3) := by decide +kernel
theorem dX2_costOfTaking_126 : decode cX2_costOfTaking 126 = .ok (.goto (-109), 3) := by decide +kernel
theorem dX2_costOfTaking_129 : decode cX2_costOfTaking 129 = .ok (.iinc 5 1, 3) := by decide +kernel
theorem dX2_costOfTaking_132 : decode cX2_costOfTaking 132 = .ok (.goto (-127), 3) := by decide +kernel
theorem dX2_costOfTaking_135 : decode cX2_costOfTaking 135 = .ok (.lload_n 3, 1) := by decide +kernel
theorem dX2_costOfTaking_136 : decode cX2_costOfTaking 136 = .ok (.lreturn, 1) := by decide +kernel
theorem dX2_brokenRounds_0 : decode cX2_brokenRounds 0 = .ok (.iconst 0, 1) := by decide +kernel
theorem dX2_brokenRounds_1 : decode cX2_brokenRounds 1 = .ok (.istore_n 1, 1) := by decide +kernel
theorem dX2_brokenRounds_2 : decode cX2_brokenRounds 2 = .ok (.iconst 2, 1) := by decide +kernel
theorem dX2_brokenRounds_3 : decode cX2_brokenRounds 3 = .ok (.istore_n 2, 1) := by decide +kernel
theorem dX2_brokenRounds_4 : decode cX2_brokenRounds 4 = .ok (.iload_n 2, 1) := by decide +kernel
theorem dX2_brokenRounds_5 : decode cX2_brokenRounds 5 = .ok (.aload_n 0, 1) := by decide +kernel
theorem dX2_brokenRounds_6 : decode cX2_brokenRounds 6 = .ok (.getfield 26, 3) := by decide +kernel
theorem dX2_brokenRounds_9 : decode cX2_brokenRounds 9 = .ok (.if_icmp .ge 56, 3) := by decide +kernel
theorem dX2_brokenRounds_12 : decode cX2_brokenRounds 12 = .ok (.iconst 1, 1) := by decide +kernel
theorem dX2_brokenRounds_13 : decode cX2_brokenRounds 13 = .ok (.istore_n 3, 1) := by decide +kernel
theorem dX2_brokenRounds_14 : decode cX2_brokenRounds 14 = .ok (.iload_n 3, 1) := by decide +kernel
theorem dX2_brokenRounds_15 : decode cX2_brokenRounds 15 = .ok (.iload_n 2, 1) := by decide +kernel
theorem dX2_brokenRounds_16 : decode cX2_brokenRounds 16 = .ok (.if_icmp .ge 43, 3) := by decide +kernel
theorem dX2_brokenRounds_19 : decode cX2_brokenRounds 19 = .ok (.iconst 0, 1) := by decide +kernel
theorem dX2_brokenRounds_20 : decode cX2_brokenRounds 20 = .ok (.istore 4, 2) := by decide +kernel
theorem dX2_brokenRounds_22 : decode cX2_brokenRounds 22 = .ok (.iload 4, 2) := by decide +kernel
theorem dX2_brokenRounds_24 : decode cX2_brokenRounds 24 = .ok (.iload_n 3, 1) := by decide +kernel
theorem dX2_brokenRounds_25 : decode cX2_brokenRounds 25 = .ok (.if_icmp .ge 28, 3) := by decide +kernel
theorem dX2_brokenRounds_28 : decode cX2_brokenRounds 28 = .ok (.iload_n 1, 1) := by decide +kernel
theorem dX2_brokenRounds_29 : decode cX2_brokenRounds 29 = .ok (.aload_n 0, 1) := by decide +kernel
theorem dX2_brokenRounds_30 : decode cX2_brokenRounds 30 = .ok (.iload_n 2, 1) := by decide +kernel
theorem dX2_brokenRounds_31 : decode cX2_brokenRounds 31 = .ok (.iload_n 3, 1) := by decide +kernel
theorem dX2_brokenRounds_32 : decode cX2_brokenRounds 32 = .ok (.iload 4, 2) := by decide +kernel
theorem dX2_brokenRounds_34 : decode cX2_brokenRounds 34 = .ok (.invokestatic 80, 3) := by decide +kernel
theorem dX2_brokenRounds_37 : decode cX2_brokenRounds 37 = .ok (.ifCond .eq 7, 3) := by decide +kernel
theorem dX2_brokenRounds_40 : decode cX2_brokenRounds 40 = .ok (.iconst 1, 1) := by decide +kernel
theorem dX2_brokenRounds_41 : decode cX2_brokenRounds 41 = .ok (.goto 4, 3) := by decide +kernel
theorem dX2_brokenRounds_44 : decode cX2_brokenRounds 44 = .ok (.iconst 0, 1) := by decide +kernel
theorem dX2_brokenRounds_45 : decode cX2_brokenRounds 45 = .ok (.iadd, 1) := by decide +kernel
theorem dX2_brokenRounds_46 : decode cX2_brokenRounds 46 = .ok (.istore_n 1, 1) := by decide +kernel
theorem dX2_brokenRounds_47 : decode cX2_brokenRounds 47 = .ok (.iinc 4 1, 3) := by decide +kernel
theorem dX2_brokenRounds_50 : decode cX2_brokenRounds 50 = .ok (.goto (-28), 3) := by decide +kernel
theorem dX2_brokenRounds_53 : decode cX2_brokenRounds 53 = .ok (.iinc 3 1, 3) := by decide +kernel
theorem dX2_brokenRounds_56 : decode cX2_brokenRounds 56 = .ok (.goto (-42), 3) := by decide +kernel
theorem dX2_brokenRounds_59 : decode cX2_brokenRounds 59 = .ok (.iinc 2 1, 3) := by decide +kernel
theorem dX2_brokenRounds_62 : decode cX2_brokenRounds 62 = .ok (.goto (-58), 3) := by decide +kernel
theorem dX2_brokenRounds_65 : decode cX2_brokenRounds 65 = .ok (.iload_n 1, 1) := by decide +kernel
theorem dX2_brokenRounds_66 : decode cX2_brokenRounds 66 = .ok (.ireturn, 1) := by decide +kernel
theorem dX2_isBroken_0 : decode cX2_isBroken 0 = .ok (.aload_n 0, 1) := by decide +kernel
theorem dX2_isBroken_1 : decode cX2_isBroken 1 = .ok (.iload_n 1, 1) := by decide +kernel
theorem dX2_isBroken_2 : decode cX2_isBroken 2 = .ok (.iload_n 2, 1) := by decide +kernel
theorem dX2_isBroken_3 : decode cX2_isBroken 3 = .ok (.invokevirtual 77, 3) := by decide +kernel
theorem dX2_isBroken_6 : decode cX2_isBroken 6 = .ok (.ifCond .le 25, 3) := by decide +kernel
theorem dX2_isBroken_9 : decode cX2_isBroken 9 = .ok (.aload_n 0, 1) := by decide +kernel
theorem dX2_isBroken_10 : decode cX2_isBroken 10 = .ok (.iload_n 1, 1) := by decide +kernel
theorem dX2_isBroken_11 : decode cX2_isBroken 11 = .ok (.iload_n 3, 1) := by decide +kernel
theorem dX2_isBroken_12 : decode cX2_isBroken 12 = .ok (.invokevirtual 77, 3) := by decide +kernel
theorem dX2_isBroken_15 : decode cX2_isBroken 15 = .ok (.ifCond .le 16, 3) := by decide +kernel
theorem dX2_isBroken_18 : decode cX2_isBroken 18 = .ok (.aload_n 0, 1) := by decide +kernel
theorem dX2_isBroken_19 : decode cX2_isBroken 19 = .ok (.iload_n 2, 1) := by decide +kernel
theorem dX2_isBroken_20 : decode cX2_isBroken 20 = .ok (.iload_n 3, 1) := by decide +kernel
theorem dX2_isBroken_21 : decode cX2_isBroken 21 = .ok (.invokevirtual 77, 3) := by decide +kernel
theorem dX2_isBroken_24 : decode cX2_isBroken 24 = .ok (.ifCond .le 7, 3) := by decide +kernel
theorem dX2_isBroken_27 : decode cX2_isBroken 27 = .ok (.iconst 1, 1) := by decide +kernel
theorem dX2_isBroken_28 : decode cX2_isBroken 28 = .ok (.goto 4, 3) := by decide +kernel
theorem dX2_isBroken_31 : decode cX2_isBroken 31 = .ok (.iconst 0, 1) := by decide +kernel
theorem dX2_isBroken_32 : decode cX2_isBroken 32 = .ok (.istore 4, 2) := by decide +kernel
theorem dX2_isBroken_34 : decode cX2_isBroken 34 = .ok (.iload 4, 2) := by decide +kernel
theorem dX2_isBroken_36 : decode cX2_isBroken 36 = .ok (.ifCond .eq 31, 3) := by decide +kernel
theorem dX2_isBroken_39 : decode cX2_isBroken 39 = .ok (.aload_n 0, 1) := by decide +kernel
theorem dX2_isBroken_40 : decode cX2_isBroken 40 = .ok (.iload_n 1, 1) := by decide +kernel
theorem dX2_isBroken_41 : decode cX2_isBroken 41 = .ok (.iload_n 2, 1) := by decide +kernel
theorem dX2_isBroken_42 : decode cX2_isBroken 42 = .ok (.invokevirtual 74, 3) := by decide +kernel
theorem dX2_isBroken_45 : decode cX2_isBroken 45 = .ok (.aload_n 0, 1) := by decide +kernel
theorem dX2_isBroken_46 : decode cX2_isBroken 46 = .ok (.iload_n 1, 1) := by decide +kernel
theorem dX2_isBroken_47 : decode cX2_isBroken 47 = .ok (.iload_n 3, 1) := by decide +kernel
theorem dX2_isBroken_48 : decode cX2_isBroken 48 = .ok (.invokevirtual 74, 3) := by decide +kernel
theorem dX2_isBroken_51 : decode cX2_isBroken 51 = .ok (.iadd, 1) := by decide +kernel
theorem dX2_isBroken_52 : decode cX2_isBroken 52 = .ok (.aload_n 0, 1) := by decide +kernel
theorem dX2_isBroken_53 : decode cX2_isBroken 53 = .ok (.iload_n 2, 1) := by decide +kernel
theorem dX2_isBroken_54 : decode cX2_isBroken 54 = .ok (.iload_n 3, 1) := by decide +kernel
theorem dX2_isBroken_55 : decode cX2_isBroken 55 = .ok (.invokevirtual 74, 3) := by decide +kernel
theorem dX2_isBroken_58 : decode cX2_isBroken 58 = .ok (.iadd, 1) := by decide +kernel
theorem dX2_isBroken_59 : decode cX2_isBroken 59 = .ok (.iconst 2, 1) := by decide +kernel
theorem dX2_isBroken_60 : decode cX2_isBroken 60 = .ok (.if_icmp .ne 7, 3) := by decide +kernel
theorem dX2_isBroken_63 : decode cX2_isBroken 63 = .ok (.iconst 1, 1) := by decide +kernel
theorem dX2_isBroken_64 : decode cX2_isBroken 64 = .ok (.goto 4, 3) := by decide +kernel
theorem dX2_isBroken_67 : decode cX2_isBroken 67 = .ok (.iconst 0, 1) := by decide +kernel
theorem dX2_isBroken_68 : decode cX2_isBroken 68 = .ok (.ireturn, 1) := by decide +kernel
theorem dX3_init_0 : decode cX3_init 0 = .ok (.aload_n 0, 1) := by decide +kernel
theorem dX3_init_1 : decode cX3_init 1 = .ok (.invokespecial 3, 3) := by decide +kernel
theorem dX3_init_4 : decode cX3_init 4 = .ok (.aload_n 0, 1) := by decide +kernel
theorem dX3_init_5 : decode cX3_init 5 = .ok (.bipush 12, 2) := by decide +kernel
theorem dX3_init_7 : decode cX3_init 7 = .ok (.newarray .int, 2) := by decide +kernel
theorem dX3_init_9 : decode cX3_init 9 = .ok (.putfield 9, 3) := by decide +kernel
theorem dX3_init_12 : decode cX3_init 12 = .ok (.aload_n 0, 1) := by decide +kernel
theorem dX3_init_13 : decode cX3_init 13 = .ok (.sipush 144, 3) := by decide +kernel
theorem dX3_init_16 : decode cX3_init 16 = .ok (.newarray .long, 2) := by decide +kernel
theorem dX3_init_18 : decode cX3_init 18 = .ok (.putfield 15, 3) := by decide +kernel
theorem dX3_init_21 : decode cX3_init 21 = .ok (.aload_n 0, 1) := by decide +kernel
theorem dX3_init_22 : decode cX3_init 22 = .ok (.new 19, 3) := by decide +kernel
theorem dX3_init_25 : decode cX3_init 25 = .ok (.dup, 1) := by decide +kernel
theorem dX3_init_26 : decode cX3_init 26 = .ok (.invokespecial 21, 3) := by decide +kernel
theorem dX3_init_29 : decode cX3_init 29 = .ok (.putfield 22, 3) := by decide +kernel
theorem dX3_init_32 : decode cX3_init 32 = .ok (.aload_n 0, 1) := by decide +kernel
theorem dX3_init_33 : decode cX3_init 33 = .ok (.new 26, 3) := by decide +kernel
theorem dX3_init_36 : decode cX3_init 36 = .ok (.dup, 1) := by decide +kernel
theorem dX3_init_37 : decode cX3_init 37 = .ok (.invokespecial 28, 3) := by decide +kernel
theorem dX3_init_40 : decode cX3_init 40 = .ok (.putfield 29, 3) := by decide +kernel
theorem dX3_init_43 : decode cX3_init 43 = .ok (.return_, 1) := by decide +kernel
theorem dX3_run_0 : decode cX3_run 0 = .ok (.aload_n 0, 1) := by decide +kernel
theorem dX3_run_1 : decode cX3_run 1 = .ok (.aload_n 1, 1) := by decide +kernel
theorem dX3_run_2 : decode cX3_run 2 = .ok (.invokevirtual 33, 3) := by decide +kernel
theorem dX3_run_5 : decode cX3_run 5 = .ok (.aload_n 0, 1) := by decide +kernel
theorem dX3_run_6 : decode cX3_run 6 = .ok (.aload_n 1, 1) := by decide +kernel
theorem dX3_run_7 : decode cX3_run 7 = .ok (.invokevirtual 37, 3) := by decide +kernel
theorem dX3_run_10 : decode cX3_run 10 = .ok (.aload_n 0, 1) := by decide +kernel
theorem dX3_run_11 : decode cX3_run 11 = .ok (.iload_n 2, 1) := by decide +kernel
theorem dX3_run_12 : decode cX3_run 12 = .ok (.invokevirtual 40, 3) := by decide +kernel
theorem dX3_run_15 : decode cX3_run 15 = .ok (.aload_n 0, 1) := by decide +kernel
theorem dX3_run_16 : decode cX3_run 16 = .ok (.getfield 22, 3) := by decide +kernel
theorem dX3_run_19 : decode cX3_run 19 = .ok (.aload_n 1, 1) := by decide +kernel
theorem dX3_run_20 : decode cX3_run 20 = .ok (.getfield 44, 3) := by decide +kernel
theorem dX3_run_23 : decode cX3_run 23 = .ok (.putfield 48, 3) := by decide +kernel
theorem dX3_run_26 : decode cX3_run 26 = .ok (.ldc2_w 51, 3) := by decide +kernel
theorem dX3_run_29 : decode cX3_run 29 = .ok (.lstore 4, 2) := by decide +kernel
theorem dX3_run_31 : decode cX3_run 31 = .ok (.iconst 0, 1) := by decide +kernel
theorem dX3_run_32 : decode cX3_run 32 = .ok (.istore 6, 2) := by decide +kernel
theorem dX3_run_34 : decode cX3_run 34 = .ok (.iload 6, 2) := by decide +kernel
theorem dX3_run_36 : decode cX3_run 36 = .ok (.iconst 1, 1) := by decide +kernel
theorem dX3_run_37 : decode cX3_run 37 = .ok (.aload_n 1, 1) := by decide +kernel
theorem dX3_run_38 : decode cX3_run 38 = .ok (.getfield 44, 3) := by decide +kernel
theorem dX3_run_41 : decode cX3_run 41 = .ok (.iconst 1, 1) := by decide +kernel
theorem dX3_run_42 : decode cX3_run 42 = .ok (.isub, 1) := by decide +kernel
theorem dX3_run_43 : decode cX3_run 43 = .ok (.ishl, 1) := by decide +kernel
theorem dX3_run_44 : decode cX3_run 44 = .ok (.if_icmp .ge 86, 3) := by decide +kernel
theorem dX3_run_47 : decode cX3_run 47 = .ok (.iload 6, 2) := by decide +kernel
theorem dX3_run_49 : decode cX3_run 49 = .ok (.invokestatic 53, 3) := by decide +kernel
theorem dX3_run_52 : decode cX3_run 52 = .ok (.iload_n 3, 1) := by decide +kernel
theorem dX3_run_53 : decode cX3_run 53 = .ok (.iconst 1, 1) := by decide +kernel
theorem dX3_run_54 : decode cX3_run 54 = .ok (.isub, 1) := by decide +kernel
theorem dX3_run_55 : decode cX3_run 55 = .ok (.if_icmp .eq 6, 3) := by decide +kernel
theorem dX3_run_58 : decode cX3_run 58 = .ok (.goto 66, 3) := by decide +kernel
theorem dX3_run_61 : decode cX3_run 61 = .ok (.aload_n 0, 1) := by decide +kernel
theorem dX3_run_62 : decode cX3_run 62 = .ok (.iload_n 2, 1) := by decide +kernel
theorem dX3_run_63 : decode cX3_run 63 = .ok (.iload 6, 2) := by decide +kernel
theorem dX3_run_65 : decode cX3_run 65 = .ok (.invokevirtual 59, 3) := by decide +kernel
theorem dX3_run_68 : decode cX3_run 68 = .ok (.lstore 7, 2) := by decide +kernel
theorem dX3_run_70 : decode cX3_run 70 = .ok (.lload 7, 2) := by decide +kernel
theorem dX3_run_72 : decode cX3_run 72 = .ok (.lload 4, 2) := by decide +kernel
theorem dX3_run_74 : decode cX3_run 74 = .ok (.lcmp, 1) := by decide +kernel
theorem dX3_run_75 : decode cX3_run 75 = .ok (.ifCond .le 6, 3) := by decide +kernel
theorem dX3_run_78 : decode cX3_run 78 = .ok (.goto 46, 3) := by decide +kernel
theorem dX3_run_81 : decode cX3_run 81 = .ok (.aload_n 0, 1) := by decide +kernel
theorem dX3_run_82 : decode cX3_run 82 = .ok (.iload 6, 2) := by decide +kernel
theorem dX3_run_84 : decode cX3_run 84 = .ok (.invokevirtual 63, 3) := by decide +kernel
theorem dX3_run_87 : decode cX3_run 87 = .ok (.lload 7, 2) := by decide +kernel
theorem dX3_run_89 : decode cX3_run 89 = .ok (.lload 4, 2) := by decide +kernel
theorem dX3_run_91 : decode cX3_run 91 = .ok (.lcmp, 1) := by decide +kernel
theorem dX3_run_92 : decode cX3_run 92 = .ok (.ifCond .lt 17, 3) := by decide +kernel
theorem dX3_run_95 : decode cX3_run 95 = .ok (.aload_n 0, 1) := by decide +kernel
theorem dX3_run_96 : decode cX3_run 96 = .ok (.getfield 22, 3) := by decide +kernel
theorem dX3_run_99 : decode cX3_run 99 = .ok (.aload_n 1, 1) := by decide +kernel
theorem dX3_run_100 : decode cX3_run 100 = .ok (.getfield 66, 3) := by decide +kernel
theorem dX3_run_103 : decode cX3_run 103 = .ok (.invokevirtual 69, 3) := by decide +kernel
theorem dX3_run_106 : decode cX3_run 106 = .ok (.ifCond .eq 18, 3) := by decide +kernel
theorem dX3_run_109 : decode cX3_run 109 = .ok (.lload 7, 2) := by decide +kernel
theorem dX3_run_111 : decode cX3_run 111 = .ok (.lstore 4, 2) := by decide +kernel
theorem dX3_run_113 : decode cX3_run 113 = .ok (.aload_n 1, 1) := by decide +kernel
theorem dX3_run_114 : decode cX3_run 114 = .ok (.getfield 66, 3) := by decide +kernel
theorem dX3_run_117 : decode cX3_run 117 = .ok (.aload_n 0, 1) := by decide +kernel
theorem dX3_run_118 : decode cX3_run 118 = .ok (.getfield 22, 3) := by decide +kernel
theorem dX3_run_121 : decode cX3_run 121 = .ok (.invokevirtual 73, 3) := by decide +kernel
theorem dX3_run_124 : decode cX3_run 124 = .ok (.iinc 6 1, 3) := by decide +kernel
theorem dX3_run_127 : decode cX3_run 127 = .ok (.goto (-93), 3) := by decide +kernel
theorem dX3_run_130 : decode cX3_run 130 = .ok (.lload 4, 2) := by decide +kernel
theorem dX3_run_132 : decode cX3_run 132 = .ok (.lreturn, 1) := by decide +kernel
theorem dX3_flatten_0 : decode cX3_flatten 0 = .ok (.aload_n 0, 1) := by decide +kernel
theorem dX3_flatten_1 : decode cX3_flatten 1 = .ok (.getfield 29, 3) := by decide +kernel
theorem dX3_flatten_4 : decode cX3_flatten 4 = .ok (.aload_n 1, 1) := by decide +kernel
theorem dX3_flatten_5 : decode cX3_flatten 5 = .ok (.getfield 44, 3) := by decide +kernel
theorem dX3_flatten_8 : decode cX3_flatten 8 = .ok (.putfield 44, 3) := by decide +kernel
theorem dX3_flatten_11 : decode cX3_flatten 11 = .ok (.iconst 1, 1) := by decide +kernel
theorem dX3_flatten_12 : decode cX3_flatten 12 = .ok (.istore_n 2, 1) := by decide +kernel
theorem dX3_flatten_13 : decode cX3_flatten 13 = .ok (.iload_n 2, 1) := by decide +kernel
theorem dX3_flatten_14 : decode cX3_flatten 14 = .ok (.aload_n 1, 1) := by decide +kernel
theorem dX3_flatten_15 : decode cX3_flatten 15 = .ok (.getfield 44, 3) := by decide +kernel
theorem dX3_flatten_18 : decode cX3_flatten 18 = .ok (.if_icmp .ge 45, 3) := by decide +kernel
theorem dX3_flatten_21 : decode cX3_flatten 21 = .ok (.iconst 0, 1) := by decide +kernel
theorem dX3_flatten_22 : decode cX3_flatten 22 = .ok (.istore_n 3, 1) := by decide +kernel
theorem dX3_flatten_23 : decode cX3_flatten 23 = .ok (.iload_n 3, 1) := by decide +kernel
theorem dX3_flatten_24 : decode cX3_flatten 24 = .ok (.iload_n 2, 1) := by decide +kernel
theorem dX3_flatten_25 : decode cX3_flatten 25 = .ok (.if_icmp .ge 32, 3) := by decide +kernel
theorem dX3_flatten_28 : decode cX3_flatten 28 = .ok (.aload_n 0, 1) := by decide +kernel
theorem dX3_flatten_29 : decode cX3_flatten 29 = .ok (.getfield 29, 3) := by decide +kernel
theorem dX3_flatten_32 : decode cX3_flatten 32 = .ok (.iload_n 2, 1) := by decide +kernel
theorem dX3_flatten_33 : decode cX3_flatten 33 = .ok (.iload_n 3, 1) := by decide +kernel
theorem dX3_flatten_34 : decode cX3_flatten 34 = .ok (.aload_n 1, 1) := by decide +kernel
theorem dX3_flatten_35 : decode cX3_flatten 35 = .ok (.iload_n 2, 1) := by decide +kernel
theorem dX3_flatten_36 : decode cX3_flatten 36 = .ok (.invokevirtual 77, 3) := by decide +kernel
theorem dX3_flatten_39 : decode cX3_flatten 39 = .ok (.aload_n 1, 1) := by decide +kernel
theorem dX3_flatten_40 : decode cX3_flatten 40 = .ok (.iload_n 3, 1) := by decide +kernel
theorem dX3_flatten_41 : decode cX3_flatten 41 = .ok (.invokevirtual 77, 3) := by decide +kernel
theorem dX3_flatten_44 : decode cX3_flatten 44 = .ok (.isub, 1) := by decide +kernel
theorem dX3_flatten_45 : decode cX3_flatten 45 = .ok (.invokestatic 80, 3) := by decide +kernel
theorem dX3_flatten_48 : decode cX3_flatten 48 = .ok (.invokevirtual 85, 3) := by decide +kernel
theorem dX3_flatten_51 : decode cX3_flatten 51 = .ok (.iinc 3 1, 3) := by decide +kernel
theorem dX3_flatten_54 : decode cX3_flatten 54 = .ok (.goto (-31), 3) := by decide +kernel
theorem dX3_flatten_57 : decode cX3_flatten 57 = .ok (.iinc 2 1, 3) := by decide +kernel
theorem dX3_flatten_60 : decode cX3_flatten 60 = .ok (.goto (-47), 3) := by decide +kernel
theorem dX3_flatten_63 : decode cX3_flatten 63 = .ok (.return_, 1) := by decide +kernel
theorem dX3_sortThings_0 : decode cX3_sortThings 0 = .ok (.iconst 0, 1) := by decide +kernel
theorem dX3_sortThings_1 : decode cX3_sortThings 1 = .ok (.istore_n 2, 1) := by decide +kernel
theorem dX3_sortThings_2 : decode cX3_sortThings 2 = .ok (.iload_n 2, 1) := by decide +kernel
theorem dX3_sortThings_3 : decode cX3_sortThings 3 = .ok (.aload_n 1, 1) := by decide +kernel
theorem dX3_sortThings_4 : decode cX3_sortThings 4 = .ok (.getfield 44, 3) := by decide +kernel
theorem dX3_sortThings_7 : decode cX3_sortThings 7 = .ok (.if_icmp .ge 62, 3) := by decide +kernel
theorem dX3_sortThings_10 : decode cX3_sortThings 10 = .ok (.iload_n 2, 1) := by decide +kernel
theorem dX3_sortThings_11 : decode cX3_sortThings 11 = .ok (.istore_n 3, 1) := by decide +kernel
theorem dX3_sortThings_12 : decode cX3_sortThings 12 = .ok (.iload_n 3, 1) := by decide +kernel
theorem dX3_sortThings_13 : decode cX3_sortThings 13 = .ok (.ifCond .le 43, 3) := by decide +kernel
theorem dX3_sortThings_16 : decode cX3_sortThings 16 = .ok (.aload_n 1, 1) := by decide +kernel
theorem dX3_sortThings_17 : decode cX3_sortThings 17 = .ok (.aload_n 0, 1) := by decide +kernel
theorem dX3_sortThings_18 : decode cX3_sortThings 18 = .ok (.getfield 9, 3) := by decide +kernel
theorem dX3_sortThings_21 : decode cX3_sortThings 21 = .ok (.iload_n 3, 1) := by decide +kernel
theorem dX3_sortThings_22 : decode cX3_sortThings 22 = .ok (.iconst 1, 1) := by decide +kernel
theorem dX3_sortThings_23 : decode cX3_sortThings 23 = .ok (.isub, 1) := by decide +kernel
theorem dX3_sortThings_24 : decode cX3_sortThings 24 = .ok (.iaload, 1) := by decide +kernel
theorem dX3_sortThings_25 : decode cX3_sortThings 25 = .ok (.invokevirtual 77, 3) := by decide +kernel
theorem dX3_sortThings_28 : decode cX3_sortThings 28 = .ok (.aload_n 1, 1) := by decide +kernel
theorem dX3_sortThings_29 : decode cX3_sortThings 29 = .ok (.iload_n 2, 1) := by decide +kernel
theorem dX3_sortThings_30 : decode cX3_sortThings 30 = .ok (.invokevirtual 77, 3) := by decide +kernel
theorem dX3_sortThings_33 : decode cX3_sortThings 33 = .ok (.if_icmp .le 23, 3) := by decide +kernel
theorem dX3_sortThings_36 : decode cX3_sortThings 36 = .ok (.aload_n 0, 1) := by decide +kernel
theorem dX3_sortThings_37 : decode cX3_sortThings 37 = .ok (.getfield 9, 3) := by decide +kernel
theorem dX3_sortThings_40 : decode cX3_sortThings 40 = .ok (.iload_n 3, 1) := by decide +kernel
theorem dX3_sortThings_41 : decode cX3_sortThings 41 = .ok (.aload_n 0, 1) := by decide +kernel
theorem dX3_sortThings_42 : decode cX3_sortThings 42 = .ok (.getfield 9, 3) := by decide +kernel
theorem dX3_sortThings_45 : decode cX3_sortThings 45 = .ok (.iload_n 3, 1) := by decide +kernel
theorem dX3_sortThings_46 : decode cX3_sortThings 46 = .ok (.iconst 1, 1) := by decide +kernel
theorem dX3_sortThings_47 : decode cX3_sortThings 47 = .ok (.isub, 1) := by decide +kernel
theorem dX3_sortThings_48 : decode cX3_sortThings 48 = .ok (.iaload, 1) := by decide +kernel
theorem dX3_sortThings_49 : decode cX3_sortThings 49 = .ok (.iastore, 1) := by decide +kernel
theorem dX3_sortThings_50 : decode cX3_sortThings 50 = .ok (.iinc 3 (-1), 3) := by decide +kernel
theorem dX3_sortThings_53 : decode cX3_sortThings 53 = .ok (.goto (-41), 3) := by decide +kernel
theorem dX3_sortThings_56 : decode cX3_sortThings 56 = .ok (.aload_n 0, 1) := by decide +kernel
theorem dX3_sortThings_57 : decode cX3_sortThings 57 = .ok (.getfield 9, 3) := by decide +kernel
theorem dX3_sortThings_60 : decode cX3_sortThings 60 = .ok (.iload_n 3, 1) := by decide +kernel
theorem dX3_sortThings_61 : decode cX3_sortThings 61 = .ok (.iload_n 2, 1) := by decide +kernel
theorem dX3_sortThings_62 : decode cX3_sortThings 62 = .ok (.iastore, 1) := by decide +kernel
theorem dX3_sortThings_63 : decode cX3_sortThings 63 = .ok (.iinc 2 1, 3) := by decide +kernel
theorem dX3_sortThings_66 : decode cX3_sortThings 66 = .ok (.goto (-64), 3) := by decide +kernel
theorem dX3_sortThings_69 : decode cX3_sortThings 69 = .ok (.return_, 1) := by decide +kernel
theorem dX3_costAllSpans_0 : decode cX3_costAllSpans 0 = .ok (.iconst 0, 1) := by decide +kernel
theorem dX3_costAllSpans_1 : decode cX3_costAllSpans 1 = .ok (.istore_n 2, 1) := by decide +kernel
theorem dX3_costAllSpans_2 : decode cX3_costAllSpans 2 = .ok (.iload_n 2, 1) := by decide +kernel
theorem dX3_costAllSpans_3 : decode cX3_costAllSpans 3 = .ok (.aload_n 0, 1) := by decide +kernel
theorem dX3_costAllSpans_4 : decode cX3_costAllSpans 4 = .ok (.getfield 29, 3) := by decide +kernel
theorem dX3_costAllSpans_7 : decode cX3_costAllSpans 7 = .ok (.getfield 44, 3) := by decide +kernel
theorem dX3_costAllSpans_10 : decode cX3_costAllSpans 10 = .ok (.if_icmp .ge 65, 3) := by decide +kernel
theorem dX3_costAllSpans_13 : decode cX3_costAllSpans 13 = .ok (.iconst 0, 1) := by decide +kernel
theorem dX3_costAllSpans_14 : decode cX3_costAllSpans 14 = .ok (.istore_n 3, 1) := by decide +kernel
theorem dX3_costAllSpans_15 : decode cX3_costAllSpans 15 = .ok (.iload_n 2, 1) := by decide +kernel
theorem dX3_costAllSpans_16 : decode cX3_costAllSpans 16 = .ok (.istore 4, 2) := by decide +kernel
theorem dX3_costAllSpans_18 : decode cX3_costAllSpans 18 = .ok (.iload 4, 2) := by decide +kernel
theorem dX3_costAllSpans_20 : decode cX3_costAllSpans 20 = .ok (.aload_n 0, 1) := by decide +kernel
theorem dX3_costAllSpans_21 : decode cX3_costAllSpans 21 = .ok (.getfield 29, 3) := by decide +kernel
theorem dX3_costAllSpans_24 : decode cX3_costAllSpans 24 = .ok (.getfield 44, 3) := by decide +kernel
theorem dX3_costAllSpans_27 : decode cX3_costAllSpans 27 = .ok (.if_icmp .ge 42, 3) := by decide +kernel
theorem dX3_costAllSpans_30 : decode cX3_costAllSpans 30 = .ok (.iload_n 3, 1) := by decide +kernel
theorem dX3_costAllSpans_31 : decode cX3_costAllSpans 31 = .ok (.iconst 1, 1) := by decide +kernel
theorem dX3_costAllSpans_32 : decode cX3_costAllSpans 32 = .ok (.aload_n 0, 1) := by decide +kernel
theorem dX3_costAllSpans_33 : decode cX3_costAllSpans 33 = .ok (.getfield 9, 3) := by decide +kernel
theorem dX3_costAllSpans_36 : decode cX3_costAllSpans 36 = .ok (.iload 4, 2) := by decide +kernel
theorem dX3_costAllSpans_38 : decode cX3_costAllSpans 38 = .ok (.iaload, 1) := by decide +kernel
theorem dX3_costAllSpans_39 : decode cX3_costAllSpans 39 = .ok (.ishl, 1) := by decide +kernel
theorem dX3_costAllSpans_40 : decode cX3_costAllSpans 40 = .ok (.ior, 1) := by decide +kernel
theorem dX3_costAllSpans_41 : decode cX3_costAllSpans 41 = .ok (.istore_n 3, 1) := by decide +kernel
theorem dX3_costAllSpans_42 : decode cX3_costAllSpans 42 = .ok (.aload_n 0, 1) := by decide +kernel
theorem dX3_costAllSpans_43 : decode cX3_costAllSpans 43 = .ok (.getfield 15, 3) := by decide +kernel
theorem dX3_costAllSpans_46 : decode cX3_costAllSpans 46 = .ok (.iload_n 2, 1) := by decide +kernel
theorem dX3_costAllSpans_47 : decode cX3_costAllSpans 47 = .ok (.bipush 12, 2) := by decide +kernel
theorem dX3_costAllSpans_49 : decode cX3_costAllSpans 49 = .ok (.imul, 1) := by decide +kernel
theorem dX3_costAllSpans_50 : decode cX3_costAllSpans 50 = .ok (.iload 4, 2) := by decide +kernel
theorem dX3_costAllSpans_52 : decode cX3_costAllSpans 52 = .ok (.iadd, 1) := by decide +kernel
theorem dX3_costAllSpans_53 : decode cX3_costAllSpans 53 = .ok (.aload_n 0, 1) := by decide +kernel
theorem dX3_costAllSpans_54 : decode cX3_costAllSpans 54 = .ok (.getfield 29, 3) := by decide +kernel
theorem dX3_costAllSpans_57 : decode cX3_costAllSpans 57 = .ok (.iload_n 1, 1) := by decide +kernel
theorem dX3_costAllSpans_58 : decode cX3_costAllSpans 58 = .ok (.iload_n 3, 1) := by decide +kernel
theorem dX3_costAllSpans_59 : decode cX3_costAllSpans 59 = .ok (.invokestatic 89, 3) := by decide +kernel
theorem dX3_costAllSpans_62 : decode cX3_costAllSpans 62 = .ok (.lastore, 1) := by decide +kernel
theorem dX3_costAllSpans_63 : decode cX3_costAllSpans 63 = .ok (.iinc 4 1, 3) := by decide +kernel
theorem dX3_costAllSpans_66 : decode cX3_costAllSpans 66 = .ok (.goto (-48), 3) := by decide +kernel
theorem dX3_costAllSpans_69 : decode cX3_costAllSpans 69 = .ok (.iinc 2 1, 3) := by decide +kernel
theorem dX3_costAllSpans_72 : decode cX3_costAllSpans 72 = .ok (.goto (-70), 3) := by decide +kernel
theorem dX3_costAllSpans_75 : decode cX3_costAllSpans 75 = .ok (.return_, 1) := by decide +kernel
theorem dX3_endsAt_0 : decode cX3_endsAt 0 = .ok (.iload_n 2, 1) := by decide +kernel
theorem dX3_endsAt_1 : decode cX3_endsAt 1 = .ok (.aload_n 0, 1) := by decide +kernel
theorem dX3_endsAt_2 : decode cX3_endsAt 2 = .ok (.getfield 29, 3) := by decide +kernel
theorem dX3_endsAt_5 : decode cX3_endsAt 5 = .ok (.getfield 44, 3) := by decide +kernel
theorem dX3_endsAt_8 : decode cX3_endsAt 8 = .ok (.iconst 1, 1) := by decide +kernel
theorem dX3_endsAt_9 : decode cX3_endsAt 9 = .ok (.isub, 1) := by decide +kernel
theorem dX3_endsAt_10 : decode cX3_endsAt 10 = .ok (.if_icmp .eq 11, 3) := by decide +kernel
theorem dX3_endsAt_13 : decode cX3_endsAt 13 = .ok (.iload_n 1, 1) := by decide +kernel
theorem dX3_endsAt_14 : decode cX3_endsAt 14 = .ok (.iload_n 2, 1) := by decide +kernel
theorem dX3_endsAt_15 : decode cX3_endsAt 15 = .ok (.invokestatic 95, 3) := by decide +kernel
theorem dX3_endsAt_18 : decode cX3_endsAt 18 = .ok (.ifCond .eq 7, 3) := by decide +kernel
theorem dX3_endsAt_21 : decode cX3_endsAt 21 = .ok (.iconst 1, 1) := by decide +kernel
theorem dX3_endsAt_22 : decode cX3_endsAt 22 = .ok (.goto 4, 3) := by decide +kernel
theorem dX3_endsAt_25 : decode cX3_endsAt 25 = .ok (.iconst 0, 1) := by decide +kernel
theorem dX3_endsAt_26 : decode cX3_endsAt 26 = .ok (.ireturn, 1) := by decide +kernel
theorem dX3_costOf_0 : decode cX3_costOf 0 = .ok (.lconst 0, 1) := by decide +kernel
theorem dX3_costOf_1 : decode cX3_costOf 1 = .ok (.lstore_n 3, 1) := by decide +kernel
theorem dX3_costOf_2 : decode cX3_costOf 2 = .ok (.iconst 0, 1) := by decide +kernel
theorem dX3_costOf_3 : decode cX3_costOf 3 = .ok (.istore 5, 2) := by decide +kernel
theorem dX3_costOf_5 : decode cX3_costOf 5 = .ok (.iconst 0, 1) := by decide +kernel
theorem dX3_costOf_6 : decode cX3_costOf 6 = .ok (.istore 6, 2) := by decide +kernel
theorem dX3_costOf_8 : decode cX3_costOf 8 = .ok (.iload 6, 2) := by decide +kernel
theorem dX3_costOf_10 : decode cX3_costOf 10 = .ok (.aload_n 0, 1) := by decide +kernel
theorem dX3_costOf_11 : decode cX3_costOf 11 = .ok (.getfield 29, 3) := by decide +kernel
theorem dX3_costOf_14 : decode cX3_costOf 14 = .ok (.getfield 44, 3) := by decide +kernel
theorem dX3_costOf_17 : decode cX3_costOf 17 = .ok (.if_icmp .ge 44, 3) := by decide +kernel
theorem dX3_costOf_20 : decode cX3_costOf 20 = .ok (.aload_n 0, 1) := by decide +kernel
theorem dX3_costOf_21 : decode cX3_costOf 21 = .ok (.iload_n 2, 1) := by decide +kernel
theorem dX3_costOf_22 : decode cX3_costOf 22 = .ok (.iload 6, 2) := by decide +kernel
theorem dX3_costOf_24 : decode cX3_costOf 24 = .ok (.invokevirtual 99, 3) := by decide +kernel
theorem dX3_costOf_27 : decode cX3_costOf 27 = .ok (.ifCond .eq 28, 3) := by decide +kernel
theorem dX3_costOf_30 : decode cX3_costOf 30 = .ok (.iload_n 1, 1) := by decide +kernel
theorem dX3_costOf_31 : decode cX3_costOf 31 = .ok (.lload_n 3, 1) := by decide +kernel
theorem dX3_costOf_32 : decode cX3_costOf 32 = .ok (.aload_n 0, 1) := by decide +kernel
theorem dX3_costOf_33 : decode cX3_costOf 33 = .ok (.getfield 15, 3) := by decide +kernel
theorem dX3_costOf_36 : decode cX3_costOf 36 = .ok (.iload 5, 2) := by decide +kernel
theorem dX3_costOf_38 : decode cX3_costOf 38 = .ok (.bipush 12, 2) := by decide +kernel
theorem dX3_costOf_40 : decode cX3_costOf 40 = .ok (.imul, 1) := by decide +kernel
theorem dX3_costOf_41 : decode cX3_costOf 41 = .ok (.iload 6, 2) := by decide +kernel
theorem dX3_costOf_43 : decode cX3_costOf 43 = .ok (.iadd, 1) := by decide +kernel
theorem dX3_costOf_44 : decode cX3_costOf 44 = .ok (.laload, 1) := by decide +kernel
theorem dX3_costOf_45 : decode cX3_costOf 45 = .ok (.invokestatic 102, 3) := by decide +kernel
theorem dX3_costOf_48 : decode cX3_costOf 48 = .ok (.lstore_n 3, 1) := by decide +kernel
theorem dX3_costOf_49 : decode cX3_costOf 49 = .ok (.iload 6, 2) := by decide +kernel
theorem dX3_costOf_51 : decode cX3_costOf 51 = .ok (.iconst 1, 1) := by decide +kernel
theorem dX3_costOf_52 : decode cX3_costOf 52 = .ok (.iadd, 1) := by decide +kernel
theorem dX3_costOf_53 : decode cX3_costOf 53 = .ok (.istore 5, 2) := by decide +kernel
theorem dX3_costOf_55 : decode cX3_costOf 55 = .ok (.iinc 6 1, 3) := by decide +kernel
theorem dX3_costOf_58 : decode cX3_costOf 58 = .ok (.goto (-50), 3) := by decide +kernel
theorem dX3_costOf_61 : decode cX3_costOf 61 = .ok (.lload_n 3, 1) := by decide +kernel
theorem dX3_costOf_62 : decode cX3_costOf 62 = .ok (.lreturn, 1) := by decide +kernel
theorem dX3_partBy_0 : decode cX3_partBy 0 = .ok (.iconst 0, 1) := by decide +kernel
theorem dX3_partBy_1 : decode cX3_partBy 1 = .ok (.istore_n 2, 1) := by decide +kernel
theorem dX3_partBy_2 : decode cX3_partBy 2 = .ok (.iconst 0, 1) := by decide +kernel
theorem dX3_partBy_3 : decode cX3_partBy 3 = .ok (.istore_n 3, 1) := by decide +kernel
theorem dX3_partBy_4 : decode cX3_partBy 4 = .ok (.iload_n 3, 1) := by decide +kernel
theorem dX3_partBy_5 : decode cX3_partBy 5 = .ok (.aload_n 0, 1) := by decide +kernel
theorem dX3_partBy_6 : decode cX3_partBy 6 = .ok (.getfield 29, 3) := by decide +kernel
theorem dX3_partBy_9 : decode cX3_partBy 9 = .ok (.getfield 44, 3) := by decide +kernel
theorem dX3_partBy_12 : decode cX3_partBy 12 = .ok (.if_icmp .ge 41, 3) := by decide +kernel
theorem dX3_partBy_15 : decode cX3_partBy 15 = .ok (.aload_n 0, 1) := by decide +kernel
theorem dX3_partBy_16 : decode cX3_partBy 16 = .ok (.getfield 22, 3) := by decide +kernel
theorem dX3_partBy_19 : decode cX3_partBy 19 = .ok (.getfield 106, 3) := by decide +kernel
theorem dX3_partBy_22 : decode cX3_partBy 22 = .ok (.aload_n 0, 1) := by decide +kernel
theorem dX3_partBy_23 : decode cX3_partBy 23 = .ok (.getfield 9, 3) := by decide +kernel
theorem dX3_partBy_26 : decode cX3_partBy 26 = .ok (.iload_n 3, 1) := by decide +kernel
theorem dX3_partBy_27 : decode cX3_partBy 27 = .ok (.iaload, 1) := by decide +kernel
theorem dX3_partBy_28 : decode cX3_partBy 28 = .ok (.iload_n 2, 1) := by decide +kernel
theorem dX3_partBy_29 : decode cX3_partBy 29 = .ok (.iastore, 1) := by decide +kernel
theorem dX3_partBy_30 : decode cX3_partBy 30 = .ok (.iload_n 2, 1) := by decide +kernel
theorem dX3_partBy_31 : decode cX3_partBy 31 = .ok (.aload_n 0, 1) := by decide +kernel
theorem dX3_partBy_32 : decode cX3_partBy 32 = .ok (.iload_n 1, 1) := by decide +kernel
theorem dX3_partBy_33 : decode cX3_partBy 33 = .ok (.iload_n 3, 1) := by decide +kernel
theorem dX3_partBy_34 : decode cX3_partBy 34 = .ok (.invokevirtual 99, 3) := by decide +kernel
theorem dX3_partBy_37 : decode cX3_partBy 37 = .ok (.ifCond .eq 7, 3) := by decide +kernel
theorem dX3_partBy_40 : decode cX3_partBy 40 = .ok (.iconst 1, 1) := by decide +kernel
theorem dX3_partBy_41 : decode cX3_partBy 41 = .ok (.goto 4, 3) := by decide +kernel
theorem dX3_partBy_44 : decode cX3_partBy 44 = .ok (.iconst 0, 1) := by decide +kernel
theorem dX3_partBy_45 : decode cX3_partBy 45 = .ok (.iadd, 1) := by decide +kernel
theorem dX3_partBy_46 : decode cX3_partBy 46 = .ok (.istore_n 2, 1) := by decide +kernel
theorem dX3_partBy_47 : decode cX3_partBy 47 = .ok (.iinc 3 1, 3) := by decide +kernel
theorem dX3_partBy_50 : decode cX3_partBy 50 = .ok (.goto (-46), 3) := by decide +kernel
theorem dX3_partBy_53 : decode cX3_partBy 53 = .ok (.aload_n 0, 1) := by decide +kernel
theorem dX3_partBy_54 : decode cX3_partBy 54 = .ok (.getfield 22, 3) := by decide +kernel
theorem dX3_partBy_57 : decode cX3_partBy 57 = .ok (.invokevirtual 109, 3) := by decide +kernel
theorem dX3_partBy_60 : decode cX3_partBy 60 = .ok (.return_, 1) := by decide +kernel
theorem dX4_init_0 : decode cX4_init 0 = .ok (.aload_n 0, 1) := by decide +kernel
theorem dX4_init_1 : decode cX4_init 1 = .ok (.invokespecial 3, 3) := by decide +kernel
theorem dX4_init_4 : decode cX4_init 4 = .ok (.aload_n 0, 1) := by decide +kernel
theorem dX4_init_5 : decode cX4_init 5 = .ok (.bipush 12, 2) := by decide +kernel
theorem dX4_init_7 : decode cX4_init 7 = .ok (.newarray .int, 2) := by decide +kernel
theorem dX4_init_9 : decode cX4_init 9 = .ok (.putfield 9, 3) := by decide +kernel
theorem dX4_init_12 : decode cX4_init 12 = .ok (.aload_n 0, 1) := by decide +kernel
theorem dX4_init_13 : decode cX4_init 13 = .ok (.bipush 12, 2) := by decide +kernel
theorem dX4_init_15 : decode cX4_init 15 = .ok (.newarray .long, 2) := by decide +kernel
theorem dX4_init_17 : decode cX4_init 17 = .ok (.putfield 15, 3) := by decide +kernel
theorem dX4_init_20 : decode cX4_init 20 = .ok (.aload_n 0, 1) := by decide +kernel
theorem dX4_init_21 : decode cX4_init 21 = .ok (.lconst 0, 1) := by decide +kernel
theorem dX4_init_22 : decode cX4_init 22 = .ok (.putfield 19, 3) := by decide +kernel
theorem dX4_init_25 : decode cX4_init 25 = .ok (.return_, 1) := by decide +kernel
theorem dX4_run_0 : decode cX4_run 0 = .ok (.iconst 0, 1) := by decide +kernel
theorem dX4_run_1 : decode cX4_run 1 = .ok (.istore_n 3, 1) := by decide +kernel
theorem dX4_run_2 : decode cX4_run 2 = .ok (.iload_n 3, 1) := by decide +kernel
theorem dX4_run_3 : decode cX4_run 3 = .ok (.ldc 23, 2) := by decide +kernel
theorem dX4_run_5 : decode cX4_run 5 = .ok (.if_icmp .ge 18, 3) := by decide +kernel
theorem dX4_run_8 : decode cX4_run 8 = .ok (.aload_n 0, 1) := by decide +kernel
theorem dX4_run_9 : decode cX4_run 9 = .ok (.aload_n 1, 1) := by decide +kernel
theorem dX4_run_10 : decode cX4_run 10 = .ok (.iload_n 2, 1) := by decide +kernel
theorem dX4_run_11 : decode cX4_run 11 = .ok (.invokevirtual 24, 3) := by decide +kernel
theorem dX4_run_14 : decode cX4_run 14 = .ok (.ifCond .eq 9, 3) := by decide +kernel
theorem dX4_run_17 : decode cX4_run 17 = .ok (.iinc 3 1, 3) := by decide +kernel
theorem dX4_run_20 : decode cX4_run 20 = .ok (.goto (-18), 3) := by decide +kernel
theorem dX4_run_23 : decode cX4_run 23 = .ok (.iload_n 3, 1) := by decide +kernel
theorem dX4_run_24 : decode cX4_run 24 = .ok (.ireturn, 1) := by decide +kernel
theorem dX4_weighHeaps_0 : decode cX4_weighHeaps 0 = .ok (.aload_n 0, 1) := by decide +kernel
theorem dX4_weighHeaps_1 : decode cX4_weighHeaps 1 = .ok (.aload_n 1, 1) := by decide +kernel
theorem dX4_weighHeaps_2 : decode cX4_weighHeaps 2 = .ok (.iload_n 2, 1) := by decide +kernel
theorem dX4_weighHeaps_3 : decode cX4_weighHeaps 3 = .ok (.invokestatic 28, 3) := by decide +kernel
theorem dX4_weighHeaps_6 : decode cX4_weighHeaps 6 = .ok (.putfield 19, 3) := by decide +kernel
theorem dX4_weighHeaps_9 : decode cX4_weighHeaps 9 = .ok (.iconst 0, 1) := by decide +kernel
theorem dX4_weighHeaps_10 : decode cX4_weighHeaps 10 = .ok (.istore_n 3, 1) := by decide +kernel
theorem dX4_weighHeaps_11 : decode cX4_weighHeaps 11 = .ok (.iload_n 3, 1) := by decide +kernel
theorem dX4_weighHeaps_12 : decode cX4_weighHeaps 12 = .ok (.aload_n 1, 1) := by decide +kernel
theorem dX4_weighHeaps_13 : decode cX4_weighHeaps 13 = .ok (.getfield 33, 3) := by decide +kernel
theorem dX4_weighHeaps_16 : decode cX4_weighHeaps 16 = .ok (.getfield 39, 3) := by decide +kernel
theorem dX4_weighHeaps_19 : decode cX4_weighHeaps 19 = .ok (.if_icmp .ge 40, 3) := by decide +kernel
theorem dX4_weighHeaps_22 : decode cX4_weighHeaps 22 = .ok (.aload_n 0, 1) := by decide +kernel
theorem dX4_weighHeaps_23 : decode cX4_weighHeaps 23 = .ok (.getfield 9, 3) := by decide +kernel
theorem dX4_weighHeaps_26 : decode cX4_weighHeaps 26 = .ok (.iload_n 3, 1) := by decide +kernel
theorem dX4_weighHeaps_27 : decode cX4_weighHeaps 27 = .ok (.aload_n 1, 1) := by decide +kernel
theorem dX4_weighHeaps_28 : decode cX4_weighHeaps 28 = .ok (.getfield 33, 3) := by decide +kernel
theorem dX4_weighHeaps_31 : decode cX4_weighHeaps 31 = .ok (.iload_n 3, 1) := by decide +kernel
theorem dX4_weighHeaps_32 : decode cX4_weighHeaps 32 = .ok (.invokevirtual 45, 3) := by decide +kernel
theorem dX4_weighHeaps_35 : decode cX4_weighHeaps 35 = .ok (.iastore, 1) := by decide +kernel
theorem dX4_weighHeaps_36 : decode cX4_weighHeaps 36 = .ok (.aload_n 0, 1) := by decide +kernel
theorem dX4_weighHeaps_37 : decode cX4_weighHeaps 37 = .ok (.getfield 15, 3) := by decide +kernel
theorem dX4_weighHeaps_40 : decode cX4_weighHeaps 40 = .ok (.iload_n 3, 1) := by decide +kernel
theorem dX4_weighHeaps_41 : decode cX4_weighHeaps 41 = .ok (.aload_n 1, 1) := by decide +kernel
theorem dX4_weighHeaps_42 : decode cX4_weighHeaps 42 = .ok (.iload_n 2, 1) := by decide +kernel
theorem dX4_weighHeaps_43 : decode cX4_weighHeaps 43 = .ok (.aload_n 0, 1) := by decide +kernel
theorem dX4_weighHeaps_44 : decode cX4_weighHeaps 44 = .ok (.getfield 9, 3) := by decide +kernel
theorem dX4_weighHeaps_47 : decode cX4_weighHeaps 47 = .ok (.iload_n 3, 1) := by decide +kernel
theorem dX4_weighHeaps_48 : decode cX4_weighHeaps 48 = .ok (.iaload, 1) := by decide +kernel
theorem dX4_weighHeaps_49 : decode cX4_weighHeaps 49 = .ok (.invokestatic 49, 3) := by decide +kernel
theorem dX4_weighHeaps_52 : decode cX4_weighHeaps 52 = .ok (.lastore, 1) := by decide +kernel
theorem dX4_weighHeaps_53 : decode cX4_weighHeaps 53 = .ok (.iinc 3 1, 3) := by decide +kernel
theorem dX4_weighHeaps_56 : decode cX4_weighHeaps 56 = .ok (.goto (-45), 3) := by decide +kernel
theorem dX4_weighHeaps_59 : decode cX4_weighHeaps 59 = .ok (.return_, 1) := by decide +kernel
theorem dX4_makeBestMove_0 : decode cX4_makeBestMove 0 = .ok (.aload_n 0, 1) := by decide +kernel
theorem dX4_makeBestMove_1 : decode cX4_makeBestMove 1 = .ok (.aload_n 1, 1) := by decide +kernel
theorem dX4_makeBestMove_2 : decode cX4_makeBestMove 2 = .ok (.iload_n 2, 1) := by decide +kernel
theorem dX4_makeBestMove_3 : decode cX4_makeBestMove 3 = .ok (.invokevirtual 53, 3) := by decide +kernel
theorem dX4_makeBestMove_6 : decode cX4_makeBestMove 6 = .ok (.aload_n 1, 1) := by decide +kernel
theorem dX4_makeBestMove_7 : decode cX4_makeBestMove 7 = .ok (.getfield 33, 3) := by decide +kernel
theorem dX4_makeBestMove_10 : decode cX4_makeBestMove 10 = .ok (.astore_n 3, 1) := by decide +kernel
theorem dX4_makeBestMove_11 : decode cX4_makeBestMove 11 = .ok (.aload_n 1, 1) := by decide +kernel
theorem dX4_makeBestMove_12 : decode cX4_makeBestMove 12 = .ok (.iload_n 2, 1) := by decide +kernel
theorem dX4_makeBestMove_13 : decode cX4_makeBestMove 13 = .ok (.aload_n 3, 1) := by decide +kernel
theorem dX4_makeBestMove_14 : decode cX4_makeBestMove 14 = .ok (.invokestatic 57, 3) := by decide +kernel
theorem dX4_makeBestMove_17 : decode cX4_makeBestMove 17 = .ok (.lstore 4, 2) := by decide +kernel
theorem dX4_makeBestMove_19 : decode cX4_makeBestMove 19 = .ok (.iconst (-1), 1) := by decide +kernel
theorem dX4_makeBestMove_20 : decode cX4_makeBestMove 20 = .ok (.istore 6, 2) := by decide +kernel
theorem dX4_makeBestMove_22 : decode cX4_makeBestMove 22 = .ok (.iconst (-1), 1) := by decide +kernel
theorem dX4_makeBestMove_23 : decode cX4_makeBestMove 23 = .ok (.istore 7, 2) := by decide +kernel
theorem dX4_makeBestMove_25 : decode cX4_makeBestMove 25 = .ok (.iconst 0, 1) := by decide +kernel
theorem dX4_makeBestMove_26 : decode cX4_makeBestMove 26 = .ok (.istore 8, 2) := by decide +kernel
theorem dX4_makeBestMove_28 : decode cX4_makeBestMove 28 = .ok (.iload 8, 2) := by decide +kernel
theorem dX4_makeBestMove_30 : decode cX4_makeBestMove 30 = .ok (.aload_n 1, 1) := by decide +kernel
theorem dX4_makeBestMove_31 : decode cX4_makeBestMove 31 = .ok (.getfield 61, 3) := by decide +kernel
theorem dX4_makeBestMove_34 : decode cX4_makeBestMove 34 = .ok (.if_icmp .ge 117, 3) := by decide +kernel
theorem dX4_makeBestMove_37 : decode cX4_makeBestMove 37 = .ok (.aload_n 3, 1) := by decide +kernel
theorem dX4_makeBestMove_38 : decode cX4_makeBestMove 38 = .ok (.getfield 64, 3) := by decide +kernel
theorem dX4_makeBestMove_41 : decode cX4_makeBestMove 41 = .ok (.iload 8, 2) := by decide +kernel
theorem dX4_makeBestMove_43 : decode cX4_makeBestMove 43 = .ok (.iaload, 1) := by decide +kernel
theorem dX4_makeBestMove_44 : decode cX4_makeBestMove 44 = .ok (.istore 9, 2) := by decide +kernel
theorem dX4_makeBestMove_46 : decode cX4_makeBestMove 46 = .ok (.aload_n 0, 1) := by decide +kernel
theorem dX4_makeBestMove_47 : decode cX4_makeBestMove 47 = .ok (.getfield 9, 3) := by decide +kernel
theorem dX4_makeBestMove_50 : decode cX4_makeBestMove 50 = .ok (.iload 9, 2) := by decide +kernel
theorem dX4_makeBestMove_52 : decode cX4_makeBestMove 52 = .ok (.iaload, 1) := by decide +kernel
theorem dX4_makeBestMove_53 : decode cX4_makeBestMove 53 = .ok (.iconst 1, 1) := by decide +kernel
theorem dX4_makeBestMove_54 : decode cX4_makeBestMove 54 = .ok (.iload 8, 2) := by decide +kernel
theorem dX4_makeBestMove_56 : decode cX4_makeBestMove 56 = .ok (.ishl, 1) := by decide +kernel
theorem dX4_makeBestMove_57 : decode cX4_makeBestMove 57 = .ok (.if_icmp .ne 7, 3) := by decide +kernel
theorem dX4_makeBestMove_60 : decode cX4_makeBestMove 60 = .ok (.iconst 1, 1) := by decide +kernel
theorem dX4_makeBestMove_61 : decode cX4_makeBestMove 61 = .ok (.goto 4, 3) := by decide +kernel
theorem dX4_makeBestMove_64 : decode cX4_makeBestMove 64 = .ok (.iconst 0, 1) := by decide +kernel
theorem dX4_makeBestMove_65 : decode cX4_makeBestMove 65 = .ok (.istore 10, 2) := by decide +kernel
theorem dX4_makeBestMove_67 : decode cX4_makeBestMove 67 = .ok (.iload 10, 2) := by decide +kernel
theorem dX4_makeBestMove_69 : decode cX4_makeBestMove 69 = .ok (.ifCond .eq 12, 3) := by decide +kernel
theorem dX4_makeBestMove_72 : decode cX4_makeBestMove 72 = .ok (.aload_n 3, 1) := by decide +kernel
theorem dX4_makeBestMove_73 : decode cX4_makeBestMove 73 = .ok (.getfield 39, 3) := by decide +kernel
theorem dX4_makeBestMove_76 : decode cX4_makeBestMove 76 = .ok (.iconst 1, 1) := by decide +kernel
theorem dX4_makeBestMove_77 : decode cX4_makeBestMove 77 = .ok (.isub, 1) := by decide +kernel
theorem dX4_makeBestMove_78 : decode cX4_makeBestMove 78 = .ok (.goto 7, 3) := by decide +kernel
theorem dX4_makeBestMove_81 : decode cX4_makeBestMove 81 = .ok (.aload_n 3, 1) := by decide +kernel
theorem dX4_makeBestMove_82 : decode cX4_makeBestMove 82 = .ok (.getfield 39, 3) := by decide +kernel
theorem dX4_makeBestMove_85 : decode cX4_makeBestMove 85 = .ok (.istore 11, 2) := by decide +kernel
theorem dX4_makeBestMove_87 : decode cX4_makeBestMove 87 = .ok (.iconst 0, 1) := by decide +kernel
theorem dX4_makeBestMove_88 : decode cX4_makeBestMove 88 = .ok (.istore 12, 2) := by decide +kernel
theorem dX4_makeBestMove_90 : decode cX4_makeBestMove 90 = .ok (.iload 12, 2) := by decide +kernel
theorem dX4_makeBestMove_92 : decode cX4_makeBestMove 92 = .ok (.iload 11, 2) := by decide +kernel
theorem dX4_makeBestMove_94 : decode cX4_makeBestMove 94 = .ok (.if_icmp .gt 51, 3) := by decide +kernel
theorem dX4_makeBestMove_97 : decode cX4_makeBestMove 97 = .ok (.iload 12, 2) := by decide +kernel
theorem dX4_makeBestMove_99 : decode cX4_makeBestMove 99 = .ok (.iload 9, 2) := by decide +kernel
theorem dX4_makeBestMove_101 : decode cX4_makeBestMove 101 = .ok (.if_icmp .ne 6, 3) := by decide +kernel
theorem dX4_makeBestMove_104 : decode cX4_makeBestMove 104 = .ok (.goto 35, 3) := by decide +kernel
theorem dX4_makeBestMove_107 : decode cX4_makeBestMove 107 = .ok (.aload_n 0, 1) := by decide +kernel
theorem dX4_makeBestMove_108 : decode cX4_makeBestMove 108 = .ok (.aload_n 1, 1) := by decide +kernel
theorem dX4_makeBestMove_109 : decode cX4_makeBestMove 109 = .ok (.iload_n 2, 1) := by decide +kernel
theorem dX4_makeBestMove_110 : decode cX4_makeBestMove 110 = .ok (.iload 8, 2) := by decide +kernel
theorem dX4_makeBestMove_112 : decode cX4_makeBestMove 112 = .ok (.iload 12, 2) := by decide +kernel
theorem dX4_makeBestMove_114 : decode cX4_makeBestMove 114 = .ok (.invokevirtual 67, 3) := by decide +kernel
theorem dX4_makeBestMove_117 : decode cX4_makeBestMove 117 = .ok (.lstore 13, 2) := by decide +kernel
theorem dX4_makeBestMove_119 : decode cX4_makeBestMove 119 = .ok (.lload 13, 2) := by decide +kernel
theorem dX4_makeBestMove_121 : decode cX4_makeBestMove 121 = .ok (.lload 4, 2) := by decide +kernel
theorem dX4_makeBestMove_123 : decode cX4_makeBestMove 123 = .ok (.lcmp, 1) := by decide +kernel
theorem dX4_makeBestMove_124 : decode cX4_makeBestMove 124 = .ok (.ifCond .ge 15, 3) := by decide +kernel
theorem dX4_makeBestMove_127 : decode cX4_makeBestMove 127 = .ok (.lload 13, 2) := by decide +kernel
theorem dX4_makeBestMove_129 : decode cX4_makeBestMove 129 = .ok (.lstore 4, 2) := by decide +kernel
theorem dX4_makeBestMove_131 : decode cX4_makeBestMove 131 = .ok (.iload 8, 2) := by decide +kernel
theorem dX4_makeBestMove_133 : decode cX4_makeBestMove 133 = .ok (.istore 6, 2) := by decide +kernel
theorem dX4_makeBestMove_135 : decode cX4_makeBestMove 135 = .ok (.iload 12, 2) := by decide +kernel
theorem dX4_makeBestMove_137 : decode cX4_makeBestMove 137 = .ok (.istore 7, 2) := by decide +kernel
theorem dX4_makeBestMove_139 : decode cX4_makeBestMove 139 = .ok (.iinc 12 1, 3) := by decide +kernel
theorem dX4_makeBestMove_142 : decode cX4_makeBestMove 142 = .ok (.goto (-52), 3) := by decide +kernel
theorem dX4_makeBestMove_145 : decode cX4_makeBestMove 145 = .ok (.iinc 8 1, 3) := by decide +kernel
theorem dX4_makeBestMove_148 : decode cX4_makeBestMove 148 = .ok (.goto (-120), 3) := by decide +kernel
theorem dX4_makeBestMove_151 : decode cX4_makeBestMove 151 = .ok (.iload 6, 2) := by decide +kernel
theorem dX4_makeBestMove_153 : decode cX4_makeBestMove 153 = .ok (.iconst (-1), 1) := by decide +kernel
theorem dX4_makeBestMove_154 : decode cX4_makeBestMove 154 = .ok (.if_icmp .ne 5, 3) := by decide +kernel
theorem dX4_makeBestMove_157 : decode cX4_makeBestMove 157 = .ok (.iconst 0, 1) := by decide +kernel
theorem dX4_makeBestMove_158 : decode cX4_makeBestMove 158 = .ok (.ireturn, 1) := by decide +kernel
theorem dX4_makeBestMove_159 : decode cX4_makeBestMove 159 = .ok (.aload_n 3, 1) := by decide +kernel
theorem dX4_makeBestMove_160 : decode cX4_makeBestMove 160 = .ok (.getfield 64, 3) := by decide +kernel
theorem dX4_makeBestMove_163 : decode cX4_makeBestMove 163 = .ok (.iload 6, 2) := by decide +kernel
theorem dX4_makeBestMove_165 : decode cX4_makeBestMove 165 = .ok (.iload 7, 2) := by decide +kernel
theorem dX4_makeBestMove_167 : decode cX4_makeBestMove 167 = .ok (.iastore, 1) := by decide +kernel
theorem dX4_makeBestMove_168 : decode cX4_makeBestMove 168 = .ok (.aload_n 3, 1) := by decide +kernel
theorem dX4_makeBestMove_169 : decode cX4_makeBestMove 169 = .ok (.invokevirtual 71, 3) := by decide +kernel
theorem dX4_makeBestMove_172 : decode cX4_makeBestMove 172 = .ok (.iconst 1, 1) := by decide +kernel
theorem dX4_makeBestMove_173 : decode cX4_makeBestMove 173 = .ok (.ireturn, 1) := by decide +kernel
theorem dX4_costAfter_0 : decode cX4_costAfter 0 = .ok (.aload_n 1, 1) := by decide +kernel
theorem dX4_costAfter_1 : decode cX4_costAfter 1 = .ok (.getfield 33, 3) := by decide +kernel
theorem dX4_costAfter_4 : decode cX4_costAfter 4 = .ok (.getfield 39, 3) := by decide +kernel
theorem dX4_costAfter_7 : decode cX4_costAfter 7 = .ok (.istore 5, 2) := by decide +kernel
theorem dX4_costAfter_9 : decode cX4_costAfter 9 = .ok (.aload_n 1, 1) := by decide +kernel
theorem dX4_costAfter_10 : decode cX4_costAfter 10 = .ok (.getfield 33, 3) := by decide +kernel
theorem dX4_costAfter_13 : decode cX4_costAfter 13 = .ok (.getfield 64, 3) := by decide +kernel
theorem dX4_costAfter_16 : decode cX4_costAfter 16 = .ok (.iload_n 3, 1) := by decide +kernel
theorem dX4_costAfter_17 : decode cX4_costAfter 17 = .ok (.iaload, 1) := by decide +kernel
theorem dX4_costAfter_18 : decode cX4_costAfter 18 = .ok (.istore 6, 2) := by decide +kernel
theorem dX4_costAfter_20 : decode cX4_costAfter 20 = .ok (.aload_n 0, 1) := by decide +kernel
theorem dX4_costAfter_21 : decode cX4_costAfter 21 = .ok (.getfield 19, 3) := by decide +kernel
theorem dX4_costAfter_24 : decode cX4_costAfter 24 = .ok (.lstore 7, 2) := by decide +kernel
theorem dX4_costAfter_26 : decode cX4_costAfter 26 = .ok (.iconst 0, 1) := by decide +kernel
theorem dX4_costAfter_27 : decode cX4_costAfter 27 = .ok (.istore 9, 2) := by decide +kernel
theorem dX4_costAfter_29 : decode cX4_costAfter 29 = .ok (.iload 9, 2) := by decide +kernel
theorem dX4_costAfter_31 : decode cX4_costAfter 31 = .ok (.iload 5, 2) := by decide +kernel
theorem dX4_costAfter_33 : decode cX4_costAfter 33 = .ok (.if_icmp .ge 38, 3) := by decide +kernel
theorem dX4_costAfter_36 : decode cX4_costAfter 36 = .ok (.iload 9, 2) := by decide +kernel
theorem dX4_costAfter_38 : decode cX4_costAfter 38 = .ok (.iload 6, 2) := by decide +kernel
theorem dX4_costAfter_40 : decode cX4_costAfter 40 = .ok (.if_icmp .eq 25, 3) := by decide +kernel
theorem dX4_costAfter_43 : decode cX4_costAfter 43 = .ok (.iload 9, 2) := by decide +kernel
theorem dX4_costAfter_45 : decode cX4_costAfter 45 = .ok (.iload 4, 2) := by decide +kernel
theorem dX4_costAfter_47 : decode cX4_costAfter 47 = .ok (.if_icmp .eq 18, 3) := by decide +kernel
theorem dX4_costAfter_50 : decode cX4_costAfter 50 = .ok (.iload_n 2, 1) := by decide +kernel
theorem dX4_costAfter_51 : decode cX4_costAfter 51 = .ok (.lload 7, 2) := by decide +kernel
theorem dX4_costAfter_53 : decode cX4_costAfter 53 = .ok (.aload_n 0, 1) := by decide +kernel
theorem dX4_costAfter_54 : decode cX4_costAfter 54 = .ok (.getfield 15, 3) := by decide +kernel
theorem dX4_costAfter_57 : decode cX4_costAfter 57 = .ok (.iload 9, 2) := by decide +kernel
theorem dX4_costAfter_59 : decode cX4_costAfter 59 = .ok (.laload, 1) := by decide +kernel
theorem dX4_costAfter_60 : decode cX4_costAfter 60 = .ok (.invokestatic 74, 3) := by decide +kernel
theorem dX4_costAfter_63 : decode cX4_costAfter 63 = .ok (.lstore 7, 2) := by decide +kernel
theorem dX4_costAfter_65 : decode cX4_costAfter 65 = .ok (.iinc 9 1, 3) := by decide +kernel
theorem dX4_costAfter_68 : decode cX4_costAfter 68 = .ok (.goto (-39), 3) := by decide +kernel
theorem dX4_costAfter_71 : decode cX4_costAfter 71 = .ok (.iload 4, 2) := by decide +kernel
theorem dX4_costAfter_73 : decode cX4_costAfter 73 = .ok (.iload 5, 2) := by decide +kernel
theorem dX4_costAfter_75 : decode cX4_costAfter 75 = .ok (.if_icmp .ge 13, 3) := by decide +kernel
theorem dX4_costAfter_78 : decode cX4_costAfter 78 = .ok (.aload_n 0, 1) := by decide +kernel
theorem dX4_costAfter_79 : decode cX4_costAfter 79 = .ok (.getfield 9, 3) := by decide +kernel
theorem dX4_costAfter_82 : decode cX4_costAfter 82 = .ok (.iload 4, 2) := by decide +kernel
theorem dX4_costAfter_84 : decode cX4_costAfter 84 = .ok (.iaload, 1) := by decide +kernel
theorem dX4_costAfter_85 : decode cX4_costAfter 85 = .ok (.goto 4, 3) := by decide +kernel
theorem dX4_costAfter_88 : decode cX4_costAfter 88 = .ok (.iconst 0, 1) := by decide +kernel
theorem dX4_costAfter_89 : decode cX4_costAfter 89 = .ok (.iconst 1, 1) := by decide +kernel
theorem dX4_costAfter_90 : decode cX4_costAfter 90 = .ok (.iload_n 3, 1) := by decide +kernel
theorem dX4_costAfter_91 : decode cX4_costAfter 91 = .ok (.ishl, 1) := by decide +kernel
theorem dX4_costAfter_92 : decode cX4_costAfter 92 = .ok (.ior, 1) := by decide +kernel
theorem dX4_costAfter_93 : decode cX4_costAfter 93 = .ok (.istore 9, 2) := by decide +kernel
theorem dX4_costAfter_95 : decode cX4_costAfter 95 = .ok (.iload_n 2, 1) := by decide +kernel
theorem dX4_costAfter_96 : decode cX4_costAfter 96 = .ok (.lload 7, 2) := by decide +kernel
theorem dX4_costAfter_98 : decode cX4_costAfter 98 = .ok (.aload_n 1, 1) := by decide +kernel
theorem dX4_costAfter_99 : decode cX4_costAfter 99 = .ok (.iload_n 2, 1) := by decide +kernel
theorem dX4_costAfter_100 : decode cX4_costAfter 100 = .ok (.aload_n 0, 1) := by decide +kernel
theorem dX4_costAfter_101 : decode cX4_costAfter 101 = .ok (.getfield 9, 3) := by decide +kernel
theorem dX4_costAfter_104 : decode cX4_costAfter 104 = .ok (.iload 6, 2) := by decide +kernel
theorem dX4_costAfter_106 : decode cX4_costAfter 106 = .ok (.iaload, 1) := by decide +kernel
theorem dX4_costAfter_107 : decode cX4_costAfter 107 = .ok (.iconst 1, 1) := by decide +kernel
theorem dX4_costAfter_108 : decode cX4_costAfter 108 = .ok (.iload_n 3, 1) := by decide +kernel
theorem dX4_costAfter_109 : decode cX4_costAfter 109 = .ok (.ishl, 1) := by decide +kernel
theorem dX4_costAfter_110 : decode cX4_costAfter 110 = .ok (.iconst (-1), 1) := by decide +kernel
theorem dX4_costAfter_111 : decode cX4_costAfter 111 = .ok (.ixor, 1) := by decide +kernel
theorem dX4_costAfter_112 : decode cX4_costAfter 112 = .ok (.iand, 1) := by decide +kernel
theorem dX4_costAfter_113 : decode cX4_costAfter 113 = .ok (.invokestatic 49, 3) := by decide +kernel
theorem dX4_costAfter_116 : decode cX4_costAfter 116 = .ok (.invokestatic 74, 3) := by decide +kernel
theorem dX4_costAfter_119 : decode cX4_costAfter 119 = .ok (.lstore 7, 2) := by decide +kernel
theorem dX4_costAfter_121 : decode cX4_costAfter 121 = .ok (.iload_n 2, 1) := by decide +kernel
theorem dX4_costAfter_122 : decode cX4_costAfter 122 = .ok (.lload 7, 2) := by decide +kernel
theorem dX4_costAfter_124 : decode cX4_costAfter 124 = .ok (.aload_n 1, 1) := by decide +kernel
theorem dX4_costAfter_125 : decode cX4_costAfter 125 = .ok (.iload_n 2, 1) := by decide +kernel
theorem dX4_costAfter_126 : decode cX4_costAfter 126 = .ok (.iload 9, 2) := by decide +kernel
theorem dX4_costAfter_128 : decode cX4_costAfter 128 = .ok (.invokestatic 49, 3) := by decide +kernel
theorem dX4_costAfter_131 : decode cX4_costAfter 131 = .ok (.invokestatic 74, 3) := by decide +kernel
theorem dX4_costAfter_134 : decode cX4_costAfter 134 = .ok (.lreturn, 1) := by decide +kernel
theorem dX5_init_0 : decode cX5_init 0 = .ok (.aload_n 0, 1) := by decide +kernel
theorem dX5_init_1 : decode cX5_init 1 = .ok (.invokespecial 3, 3) := by decide +kernel
theorem dX5_init_4 : decode cX5_init 4 = .ok (.aload_n 0, 1) := by decide +kernel
theorem dX5_init_5 : decode cX5_init 5 = .ok (.sipush 169, 3) := by decide +kernel
theorem dX5_init_8 : decode cX5_init 8 = .ok (.newarray .long, 2) := by decide +kernel
theorem dX5_init_10 : decode cX5_init 10 = .ok (.putfield 11, 3) := by decide +kernel
theorem dX5_init_13 : decode cX5_init 13 = .ok (.aload_n 0, 1) := by decide +kernel
theorem dX5_init_14 : decode cX5_init 14 = .ok (.bipush 13, 2) := by decide +kernel
theorem dX5_init_16 : decode cX5_init 16 = .ok (.newarray .long, 2) := by decide +kernel
theorem dX5_init_18 : decode cX5_init 18 = .ok (.putfield 15, 3) := by decide +kernel
theorem dX5_init_21 : decode cX5_init 21 = .ok (.iconst 0, 1) := by decide +kernel
theorem dX5_init_22 : decode cX5_init 22 = .ok (.istore_n 1, 1) := by decide +kernel
theorem dX5_init_23 : decode cX5_init 23 = .ok (.iload_n 1, 1) := by decide +kernel
theorem dX5_init_24 : decode cX5_init 24 = .ok (.bipush 13, 2) := by decide +kernel
theorem dX5_init_26 : decode cX5_init 26 = .ok (.if_icmp .ge 19, 3) := by decide +kernel
theorem dX5_init_29 : decode cX5_init 29 = .ok (.aload_n 0, 1) := by decide +kernel
theorem dX5_init_30 : decode cX5_init 30 = .ok (.getfield 11, 3) := by decide +kernel
theorem dX5_init_33 : decode cX5_init 33 = .ok (.iload_n 1, 1) := by decide +kernel
theorem dX5_init_34 : decode cX5_init 34 = .ok (.bipush 13, 2) := by decide +kernel
theorem dX5_init_36 : decode cX5_init 36 = .ok (.imul, 1) := by decide +kernel
theorem dX5_init_37 : decode cX5_init 37 = .ok (.lconst 1, 1) := by decide +kernel
theorem dX5_init_38 : decode cX5_init 38 = .ok (.lastore, 1) := by decide +kernel
theorem dX5_init_39 : decode cX5_init 39 = .ok (.iinc 1 1, 3) := by decide +kernel
theorem dX5_init_42 : decode cX5_init 42 = .ok (.goto (-19), 3) := by decide +kernel
theorem dX5_init_45 : decode cX5_init 45 = .ok (.iconst 1, 1) := by decide +kernel
theorem dX5_init_46 : decode cX5_init 46 = .ok (.istore_n 1, 1) := by decide +kernel
theorem dX5_init_47 : decode cX5_init 47 = .ok (.iload_n 1, 1) := by decide +kernel
theorem dX5_init_48 : decode cX5_init 48 = .ok (.bipush 13, 2) := by decide +kernel
theorem dX5_init_50 : decode cX5_init 50 = .ok (.if_icmp .ge 68, 3) := by decide +kernel
theorem dX5_init_53 : decode cX5_init 53 = .ok (.iconst 0, 1) := by decide +kernel
theorem dX5_init_54 : decode cX5_init 54 = .ok (.istore_n 2, 1) := by decide +kernel
theorem dX5_init_55 : decode cX5_init 55 = .ok (.iload_n 2, 1) := by decide +kernel
theorem dX5_init_56 : decode cX5_init 56 = .ok (.iload_n 1, 1) := by decide +kernel
theorem dX5_init_57 : decode cX5_init 57 = .ok (.iadd, 1) := by decide +kernel
theorem dX5_init_58 : decode cX5_init 58 = .ok (.bipush 13, 2) := by decide +kernel
theorem dX5_init_60 : decode cX5_init 60 = .ok (.if_icmp .ge 52, 3) := by decide +kernel
theorem dX5_init_63 : decode cX5_init 63 = .ok (.aload_n 0, 1) := by decide +kernel
theorem dX5_init_64 : decode cX5_init 64 = .ok (.getfield 11, 3) := by decide +kernel
theorem dX5_init_67 : decode cX5_init 67 = .ok (.iload_n 2, 1) := by decide +kernel
theorem dX5_init_68 : decode cX5_init 68 = .ok (.bipush 13, 2) := by decide +kernel
theorem dX5_init_70 : decode cX5_init 70 = .ok (.imul, 1) := by decide +kernel
theorem dX5_init_71 : decode cX5_init 71 = .ok (.iload_n 1, 1) := by decide +kernel
theorem dX5_init_72 : decode cX5_init 72 = .ok (.iadd, 1) := by decide +kernel
theorem dX5_init_73 : decode cX5_init 73 = .ok (.iload_n 2, 1) := by decide +kernel
theorem dX5_init_74 : decode cX5_init 74 = .ok (.i2l, 1) := by decide +kernel
theorem dX5_init_75 : decode cX5_init 75 = .ok (.aload_n 0, 1) := by decide +kernel
theorem dX5_init_76 : decode cX5_init 76 = .ok (.getfield 11, 3) := by decide +kernel
theorem dX5_init_79 : decode cX5_init 79 = .ok (.iload_n 2, 1) := by decide +kernel
theorem dX5_init_80 : decode cX5_init 80 = .ok (.bipush 13, 2) := by decide +kernel
theorem dX5_init_82 : decode cX5_init 82 = .ok (.imul, 1) := by decide +kernel
theorem dX5_init_83 : decode cX5_init 83 = .ok (.iload_n 1, 1) := by decide +kernel
theorem dX5_init_84 : decode cX5_init 84 = .ok (.iadd, 1) := by decide +kernel
theorem dX5_init_85 : decode cX5_init 85 = .ok (.iconst 1, 1) := by decide +kernel
theorem dX5_init_86 : decode cX5_init 86 = .ok (.isub, 1) := by decide +kernel
theorem dX5_init_87 : decode cX5_init 87 = .ok (.laload, 1) := by decide +kernel
theorem dX5_init_88 : decode cX5_init 88 = .ok (.lmul, 1) := by decide +kernel
theorem dX5_init_89 : decode cX5_init 89 = .ok (.aload_n 0, 1) := by decide +kernel
theorem dX5_init_90 : decode cX5_init 90 = .ok (.getfield 11, 3) := by decide +kernel
theorem dX5_init_93 : decode cX5_init 93 = .ok (.iload_n 2, 1) := by decide +kernel
theorem dX5_init_94 : decode cX5_init 94 = .ok (.iconst 1, 1) := by decide +kernel
theorem dX5_init_95 : decode cX5_init 95 = .ok (.iadd, 1) := by decide +kernel
theorem dX5_init_96 : decode cX5_init 96 = .ok (.bipush 13, 2) := by decide +kernel
theorem dX5_init_98 : decode cX5_init 98 = .ok (.imul, 1) := by decide +kernel
theorem dX5_init_99 : decode cX5_init 99 = .ok (.iload_n 1, 1) := by decide +kernel
theorem dX5_init_100 : decode cX5_init 100 = .ok (.iadd, 1) := by decide +kernel
theorem dX5_init_101 : decode cX5_init 101 = .ok (.iconst 1, 1) := by decide +kernel
theorem dX5_init_102 : decode cX5_init 102 = .ok (.isub, 1) := by decide +kernel
theorem dX5_init_103 : decode cX5_init 103 = .ok (.laload, 1) := by decide +kernel
theorem dX5_init_104 : decode cX5_init 104 = .ok (.ladd, 1) := by decide +kernel
theorem dX5_init_105 : decode cX5_init 105 = .ok (.lastore, 1) := by decide +kernel
theorem dX5_init_106 : decode cX5_init 106 = .ok (.iinc 2 1, 3) := by decide +kernel
theorem dX5_init_109 : decode cX5_init 109 = .ok (.goto (-54), 3) := by decide +kernel
theorem dX5_init_112 : decode cX5_init 112 = .ok (.iinc 1 1, 3) := by decide +kernel
theorem dX5_init_115 : decode cX5_init 115 = .ok (.goto (-68), 3) := by decide +kernel
theorem dX5_init_118 : decode cX5_init 118 = .ok (.return_, 1) := by decide +kernel
theorem dX5_allOf_0 : decode cX5_allOf 0 = .ok (.aload_n 0, 1) := by decide +kernel
theorem dX5_allOf_1 : decode cX5_allOf 1 = .ok (.getfield 11, 3) := by decide +kernel
theorem dX5_allOf_4 : decode cX5_allOf 4 = .ok (.iload_n 1, 1) := by decide +kernel
theorem dX5_allOf_5 : decode cX5_allOf 5 = .ok (.laload, 1) := by decide +kernel
theorem dX5_allOf_6 : decode cX5_allOf 6 = .ok (.lreturn, 1) := by decide +kernel
theorem dX5_withHeaps_0 : decode cX5_withHeaps 0 = .ok (.aload_n 0, 1) := by decide +kernel
theorem dX5_withHeaps_1 : decode cX5_withHeaps 1 = .ok (.getfield 15, 3) := by decide +kernel
theorem dX5_withHeaps_4 : decode cX5_withHeaps 4 = .ok (.lconst 0, 1) := by decide +kernel
theorem dX5_withHeaps_5 : decode cX5_withHeaps 5 = .ok (.invokestatic 18, 3) := by decide +kernel
theorem dX5_withHeaps_8 : decode cX5_withHeaps 8 = .ok (.aload_n 0, 1) := by decide +kernel
theorem dX5_withHeaps_9 : decode cX5_withHeaps 9 = .ok (.getfield 15, 3) := by decide +kernel
theorem dX5_withHeaps_12 : decode cX5_withHeaps 12 = .ok (.iconst 0, 1) := by decide +kernel
theorem dX5_withHeaps_13 : decode cX5_withHeaps 13 = .ok (.lconst 1, 1) := by decide +kernel
theorem dX5_withHeaps_14 : decode cX5_withHeaps 14 = .ok (.lastore, 1) := by decide +kernel
theorem dX5_withHeaps_15 : decode cX5_withHeaps 15 = .ok (.iconst 1, 1) := by decide +kernel
theorem dX5_withHeaps_16 : decode cX5_withHeaps 16 = .ok (.istore_n 3, 1) := by decide +kernel
theorem dX5_withHeaps_17 : decode cX5_withHeaps 17 = .ok (.iload_n 3, 1) := by decide +kernel
theorem dX5_withHeaps_18 : decode cX5_withHeaps 18 = .ok (.iload_n 1, 1) := by decide +kernel
theorem dX5_withHeaps_19 : decode cX5_withHeaps 19 = .ok (.if_icmp .gt 59, 3) := by decide +kernel
theorem dX5_withHeaps_22 : decode cX5_withHeaps 22 = .ok (.iload_n 3, 1) := by decide +kernel
theorem dX5_withHeaps_23 : decode cX5_withHeaps 23 = .ok (.istore 4, 2) := by decide +kernel
theorem dX5_withHeaps_25 : decode cX5_withHeaps 25 = .ok (.iload 4, 2) := by decide +kernel
theorem dX5_withHeaps_27 : decode cX5_withHeaps 27 = .ok (.iconst 1, 1) := by decide +kernel
theorem dX5_withHeaps_28 : decode cX5_withHeaps 28 = .ok (.if_icmp .lt 37, 3) := by decide +kernel
theorem dX5_withHeaps_31 : decode cX5_withHeaps 31 = .ok (.aload_n 0, 1) := by decide +kernel
theorem dX5_withHeaps_32 : decode cX5_withHeaps 32 = .ok (.getfield 15, 3) := by decide +kernel
theorem dX5_withHeaps_35 : decode cX5_withHeaps 35 = .ok (.iload 4, 2) := by decide +kernel
theorem dX5_withHeaps_37 : decode cX5_withHeaps 37 = .ok (.iload 4, 2) := by decide +kernel
theorem dX5_withHeaps_39 : decode cX5_withHeaps 39 = .ok (.i2l, 1) := by decide +kernel
theorem dX5_withHeaps_40 : decode cX5_withHeaps 40 = .ok (.aload_n 0, 1) := by decide +kernel
theorem dX5_withHeaps_41 : decode cX5_withHeaps 41 = .ok (.getfield 15, 3) := by decide +kernel
theorem dX5_withHeaps_44 : decode cX5_withHeaps 44 = .ok (.iload 4, 2) := by decide +kernel
theorem dX5_withHeaps_46 : decode cX5_withHeaps 46 = .ok (.laload, 1) := by decide +kernel
theorem dX5_withHeaps_47 : decode cX5_withHeaps 47 = .ok (.lmul, 1) := by decide +kernel
theorem dX5_withHeaps_48 : decode cX5_withHeaps 48 = .ok (.aload_n 0, 1) := by decide +kernel
theorem dX5_withHeaps_49 : decode cX5_withHeaps 49 = .ok (.getfield 15, 3) := by decide +kernel
theorem dX5_withHeaps_52 : decode cX5_withHeaps 52 = .ok (.iload 4, 2) := by decide +kernel
theorem dX5_withHeaps_54 : decode cX5_withHeaps 54 = .ok (.iconst 1, 1) := by decide +kernel
theorem dX5_withHeaps_55 : decode cX5_withHeaps 55 = .ok (.isub, 1) := by decide +kernel
theorem dX5_withHeaps_56 : decode cX5_withHeaps 56 = .ok (.laload, 1) := by decide +kernel
theorem dX5_withHeaps_57 : decode cX5_withHeaps 57 = .ok (.ladd, 1) := by decide +kernel
theorem dX5_withHeaps_58 : decode cX5_withHeaps 58 = .ok (.lastore, 1) := by decide +kernel
theorem dX5_withHeaps_59 : decode cX5_withHeaps 59 = .ok (.iinc 4 (-1), 3) := by decide +kernel
theorem dX5_withHeaps_62 : decode cX5_withHeaps 62 = .ok (.goto (-37), 3) := by decide +kernel
theorem dX5_withHeaps_65 : decode cX5_withHeaps 65 = .ok (.aload_n 0, 1) := by decide +kernel
theorem dX5_withHeaps_66 : decode cX5_withHeaps 66 = .ok (.getfield 15, 3) := by decide +kernel
theorem dX5_withHeaps_69 : decode cX5_withHeaps 69 = .ok (.iconst 0, 1) := by decide +kernel
theorem dX5_withHeaps_70 : decode cX5_withHeaps 70 = .ok (.lconst 0, 1) := by decide +kernel
theorem dX5_withHeaps_71 : decode cX5_withHeaps 71 = .ok (.lastore, 1) := by decide +kernel
theorem dX5_withHeaps_72 : decode cX5_withHeaps 72 = .ok (.iinc 3 1, 3) := by decide +kernel
theorem dX5_withHeaps_75 : decode cX5_withHeaps 75 = .ok (.goto (-58), 3) := by decide +kernel
theorem dX5_withHeaps_78 : decode cX5_withHeaps 78 = .ok (.aload_n 0, 1) := by decide +kernel
theorem dX5_withHeaps_79 : decode cX5_withHeaps 79 = .ok (.getfield 15, 3) := by decide +kernel
theorem dX5_withHeaps_82 : decode cX5_withHeaps 82 = .ok (.iload_n 2, 1) := by decide +kernel
theorem dX5_withHeaps_83 : decode cX5_withHeaps 83 = .ok (.laload, 1) := by decide +kernel
theorem dX5_withHeaps_84 : decode cX5_withHeaps 84 = .ok (.lreturn, 1) := by decide +kernel
theorem dX5_rankOf_0 : decode cX5_rankOf 0 = .ok (.lconst 0, 1) := by decide +kernel
theorem dX5_rankOf_1 : decode cX5_rankOf 1 = .ok (.lstore_n 2, 1) := by decide +kernel
theorem dX5_rankOf_2 : decode cX5_rankOf 2 = .ok (.iconst 0, 1) := by decide +kernel
theorem dX5_rankOf_3 : decode cX5_rankOf 3 = .ok (.istore 4, 2) := by decide +kernel
theorem dX5_rankOf_5 : decode cX5_rankOf 5 = .ok (.iconst 0, 1) := by decide +kernel
theorem dX5_rankOf_6 : decode cX5_rankOf 6 = .ok (.istore 5, 2) := by decide +kernel
theorem dX5_rankOf_8 : decode cX5_rankOf 8 = .ok (.iload 5, 2) := by decide +kernel
theorem dX5_rankOf_10 : decode cX5_rankOf 10 = .ok (.aload_n 1, 1) := by decide +kernel
theorem dX5_rankOf_11 : decode cX5_rankOf 11 = .ok (.getfield 24, 3) := by decide +kernel
theorem dX5_rankOf_14 : decode cX5_rankOf 14 = .ok (.if_icmp .ge 56, 3) := by decide +kernel
theorem dX5_rankOf_17 : decode cX5_rankOf 17 = .ok (.aload_n 1, 1) := by decide +kernel
theorem dX5_rankOf_18 : decode cX5_rankOf 18 = .ok (.getfield 30, 3) := by decide +kernel
theorem dX5_rankOf_21 : decode cX5_rankOf 21 = .ok (.iload 5, 2) := by decide +kernel
theorem dX5_rankOf_23 : decode cX5_rankOf 23 = .ok (.iaload, 1) := by decide +kernel
theorem dX5_rankOf_24 : decode cX5_rankOf 24 = .ok (.istore 6, 2) := by decide +kernel
theorem dX5_rankOf_26 : decode cX5_rankOf 26 = .ok (.lload_n 2, 1) := by decide +kernel
theorem dX5_rankOf_27 : decode cX5_rankOf 27 = .ok (.iload 6, 2) := by decide +kernel
theorem dX5_rankOf_29 : decode cX5_rankOf 29 = .ok (.i2l, 1) := by decide +kernel
theorem dX5_rankOf_30 : decode cX5_rankOf 30 = .ok (.aload_n 0, 1) := by decide +kernel
theorem dX5_rankOf_31 : decode cX5_rankOf 31 = .ok (.getfield 11, 3) := by decide +kernel
theorem dX5_rankOf_34 : decode cX5_rankOf 34 = .ok (.iload 4, 2) := by decide +kernel
theorem dX5_rankOf_36 : decode cX5_rankOf 36 = .ok (.bipush 13, 2) := by decide +kernel
theorem dX5_rankOf_38 : decode cX5_rankOf 38 = .ok (.imul, 1) := by decide +kernel
theorem dX5_rankOf_39 : decode cX5_rankOf 39 = .ok (.aload_n 1, 1) := by decide +kernel
theorem dX5_rankOf_40 : decode cX5_rankOf 40 = .ok (.getfield 24, 3) := by decide +kernel
theorem dX5_rankOf_43 : decode cX5_rankOf 43 = .ok (.iadd, 1) := by decide +kernel
theorem dX5_rankOf_44 : decode cX5_rankOf 44 = .ok (.iconst 1, 1) := by decide +kernel
theorem dX5_rankOf_45 : decode cX5_rankOf 45 = .ok (.isub, 1) := by decide +kernel
theorem dX5_rankOf_46 : decode cX5_rankOf 46 = .ok (.iload 5, 2) := by decide +kernel
theorem dX5_rankOf_48 : decode cX5_rankOf 48 = .ok (.isub, 1) := by decide +kernel
theorem dX5_rankOf_49 : decode cX5_rankOf 49 = .ok (.laload, 1) := by decide +kernel
theorem dX5_rankOf_50 : decode cX5_rankOf 50 = .ok (.lmul, 1) := by decide +kernel
theorem dX5_rankOf_51 : decode cX5_rankOf 51 = .ok (.ladd, 1) := by decide +kernel
theorem dX5_rankOf_52 : decode cX5_rankOf 52 = .ok (.lstore_n 2, 1) := by decide +kernel
theorem dX5_rankOf_53 : decode cX5_rankOf 53 = .ok (.iload 4, 2) := by decide +kernel
theorem dX5_rankOf_55 : decode cX5_rankOf 55 = .ok (.iload 6, 2) := by decide +kernel
theorem dX5_rankOf_57 : decode cX5_rankOf 57 = .ok (.iconst 1, 1) := by decide +kernel
theorem dX5_rankOf_58 : decode cX5_rankOf 58 = .ok (.iadd, 1) := by decide +kernel
theorem dX5_rankOf_59 : decode cX5_rankOf 59 = .ok (.invokestatic 34, 3) := by decide +kernel
theorem dX5_rankOf_62 : decode cX5_rankOf 62 = .ok (.istore 4, 2) := by decide +kernel
theorem dX5_rankOf_64 : decode cX5_rankOf 64 = .ok (.iinc 5 1, 3) := by decide +kernel
theorem dX5_rankOf_67 : decode cX5_rankOf 67 = .ok (.goto (-59), 3) := by decide +kernel
theorem dX5_rankOf_70 : decode cX5_rankOf 70 = .ok (.lload_n 2, 1) := by decide +kernel
theorem dX5_rankOf_71 : decode cX5_rankOf 71 = .ok (.lreturn, 1) := by decide +kernel
theorem dX5_unrank_0 : decode cX5_unrank 0 = .ok (.lload_n 1, 1) := by decide +kernel
theorem dX5_unrank_1 : decode cX5_unrank 1 = .ok (.lstore 4, 2) := by decide +kernel
theorem dX5_unrank_3 : decode cX5_unrank 3 = .ok (.iconst 0, 1) := by decide +kernel
theorem dX5_unrank_4 : decode cX5_unrank 4 = .ok (.istore 6, 2) := by decide +kernel
theorem dX5_unrank_6 : decode cX5_unrank 6 = .ok (.iconst 0, 1) := by decide +kernel
theorem dX5_unrank_7 : decode cX5_unrank 7 = .ok (.istore 7, 2) := by decide +kernel
theorem dX5_unrank_9 : decode cX5_unrank 9 = .ok (.iload 7, 2) := by decide +kernel
theorem dX5_unrank_11 : decode cX5_unrank 11 = .ok (.aload_n 3, 1) := by decide +kernel
theorem dX5_unrank_12 : decode cX5_unrank 12 = .ok (.getfield 24, 3) := by decide +kernel
theorem dX5_unrank_15 : decode cX5_unrank 15 = .ok (.if_icmp .ge 82, 3) := by decide +kernel
theorem dX5_unrank_18 : decode cX5_unrank 18 = .ok (.aload_n 0, 1) := by decide +kernel
theorem dX5_unrank_19 : decode cX5_unrank 19 = .ok (.getfield 11, 3) := by decide +kernel
theorem dX5_unrank_22 : decode cX5_unrank 22 = .ok (.iload 6, 2) := by decide +kernel
theorem dX5_unrank_24 : decode cX5_unrank 24 = .ok (.bipush 13, 2) := by decide +kernel
theorem dX5_unrank_26 : decode cX5_unrank 26 = .ok (.imul, 1) := by decide +kernel
theorem dX5_unrank_27 : decode cX5_unrank 27 = .ok (.aload_n 3, 1) := by decide +kernel
theorem dX5_unrank_28 : decode cX5_unrank 28 = .ok (.getfield 24, 3) := by decide +kernel
theorem dX5_unrank_31 : decode cX5_unrank 31 = .ok (.iadd, 1) := by decide +kernel
theorem dX5_unrank_32 : decode cX5_unrank 32 = .ok (.iconst 1, 1) := by decide +kernel
theorem dX5_unrank_33 : decode cX5_unrank 33 = .ok (.isub, 1) := by decide +kernel
theorem dX5_unrank_34 : decode cX5_unrank 34 = .ok (.iload 7, 2) := by decide +kernel
theorem dX5_unrank_36 : decode cX5_unrank 36 = .ok (.isub, 1) := by decide +kernel
theorem dX5_unrank_37 : decode cX5_unrank 37 = .ok (.laload, 1) := by decide +kernel
theorem dX5_unrank_38 : decode cX5_unrank 38 = .ok (.lstore 8, 2) := by decide +kernel
theorem dX5_unrank_40 : decode cX5_unrank 40 = .ok (.iconst 0, 1) := by decide +kernel
theorem dX5_unrank_41 : decode cX5_unrank 41 = .ok (.istore 10, 2) := by decide +kernel
theorem dX5_unrank_43 : decode cX5_unrank 43 = .ok (.iload 10, 2) := by decide +kernel
theorem dX5_unrank_45 : decode cX5_unrank 45 = .ok (.iload 6, 2) := by decide +kernel
theorem dX5_unrank_47 : decode cX5_unrank 47 = .ok (.if_icmp .ge 24, 3) := by decide +kernel
theorem dX5_unrank_50 : decode cX5_unrank 50 = .ok (.lload 4, 2) := by decide +kernel
theorem dX5_unrank_52 : decode cX5_unrank 52 = .ok (.lload 8, 2) := by decide +kernel
theorem dX5_unrank_54 : decode cX5_unrank 54 = .ok (.lcmp, 1) := by decide +kernel
theorem dX5_unrank_55 : decode cX5_unrank 55 = .ok (.ifCond .lt 16, 3) := by decide +kernel
theorem dX5_unrank_58 : decode cX5_unrank 58 = .ok (.lload 4, 2) := by decide +kernel
theorem dX5_unrank_60 : decode cX5_unrank 60 = .ok (.lload 8, 2) := by decide +kernel
theorem dX5_unrank_62 : decode cX5_unrank 62 = .ok (.lsub, 1) := by decide +kernel
theorem dX5_unrank_63 : decode cX5_unrank 63 = .ok (.lstore 4, 2) := by decide +kernel
theorem dX5_unrank_65 : decode cX5_unrank 65 = .ok (.iinc 10 1, 3) := by decide +kernel
theorem dX5_unrank_68 : decode cX5_unrank 68 = .ok (.goto (-25), 3) := by decide +kernel
theorem dX5_unrank_71 : decode cX5_unrank 71 = .ok (.aload_n 3, 1) := by decide +kernel
theorem dX5_unrank_72 : decode cX5_unrank 72 = .ok (.getfield 30, 3) := by decide +kernel
theorem dX5_unrank_75 : decode cX5_unrank 75 = .ok (.iload 7, 2) := by decide +kernel
theorem dX5_unrank_77 : decode cX5_unrank 77 = .ok (.iload 10, 2) := by decide +kernel
theorem dX5_unrank_79 : decode cX5_unrank 79 = .ok (.iastore, 1) := by decide +kernel
theorem dX5_unrank_80 : decode cX5_unrank 80 = .ok (.iload 6, 2) := by decide +kernel
theorem dX5_unrank_82 : decode cX5_unrank 82 = .ok (.iload 10, 2) := by decide +kernel
theorem dX5_unrank_84 : decode cX5_unrank 84 = .ok (.iconst 1, 1) := by decide +kernel
theorem dX5_unrank_85 : decode cX5_unrank 85 = .ok (.iadd, 1) := by decide +kernel
theorem dX5_unrank_86 : decode cX5_unrank 86 = .ok (.invokestatic 34, 3) := by decide +kernel
theorem dX5_unrank_89 : decode cX5_unrank 89 = .ok (.istore 6, 2) := by decide +kernel
theorem dX5_unrank_91 : decode cX5_unrank 91 = .ok (.iinc 7 1, 3) := by decide +kernel
theorem dX5_unrank_94 : decode cX5_unrank 94 = .ok (.goto (-85), 3) := by decide +kernel
theorem dX5_unrank_97 : decode cX5_unrank 97 = .ok (.aload_n 3, 1) := by decide +kernel
theorem dX5_unrank_98 : decode cX5_unrank 98 = .ok (.iload 6, 2) := by decide +kernel
theorem dX5_unrank_100 : decode cX5_unrank 100 = .ok (.putfield 40, 3) := by decide +kernel
theorem dX5_unrank_103 : decode cX5_unrank 103 = .ok (.return_, 1) := by decide +kernel
theorem dX6_init_0 : decode cX6_init 0 = .ok (.aload_n 0, 1) := by decide +kernel
theorem dX6_init_1 : decode cX6_init 1 = .ok (.invokespecial 3, 3) := by decide +kernel
theorem dX6_init_4 : decode cX6_init 4 = .ok (.aload_n 0, 1) := by decide +kernel
theorem dX6_init_5 : decode cX6_init 5 = .ok (.iconst 0, 1) := by decide +kernel
theorem dX6_init_6 : decode cX6_init 6 = .ok (.putfield 9, 3) := by decide +kernel
theorem dX6_init_9 : decode cX6_init 9 = .ok (.aload_n 0, 1) := by decide +kernel
theorem dX6_init_10 : decode cX6_init 10 = .ok (.iconst 0, 1) := by decide +kernel
theorem dX6_init_11 : decode cX6_init 11 = .ok (.putfield 15, 3) := by decide +kernel
theorem dX6_init_14 : decode cX6_init 14 = .ok (.aload_n 0, 1) := by decide +kernel
theorem dX6_init_15 : decode cX6_init 15 = .ok (.bipush 12, 2) := by decide +kernel
theorem dX6_init_17 : decode cX6_init 17 = .ok (.newarray .int, 2) := by decide +kernel
theorem dX6_init_19 : decode cX6_init 19 = .ok (.putfield 18, 3) := by decide +kernel
theorem dX6_init_22 : decode cX6_init 22 = .ok (.aload_n 0, 1) := by decide +kernel
theorem dX6_init_23 : decode cX6_init 23 = .ok (.bipush 13, 2) := by decide +kernel
theorem dX6_init_25 : decode cX6_init 25 = .ok (.newarray .int, 2) := by decide +kernel
theorem dX6_init_27 : decode cX6_init 27 = .ok (.putfield 22, 3) := by decide +kernel
theorem dX6_init_30 : decode cX6_init 30 = .ok (.return_, 1) := by decide +kernel
theorem dX6_copyFrom_0 : decode cX6_copyFrom 0 = .ok (.aload_n 0, 1) := by decide +kernel
theorem dX6_copyFrom_1 : decode cX6_copyFrom 1 = .ok (.aload_n 1, 1) := by decide +kernel
theorem dX6_copyFrom_2 : decode cX6_copyFrom 2 = .ok (.getfield 9, 3) := by decide +kernel
theorem dX6_copyFrom_5 : decode cX6_copyFrom 5 = .ok (.putfield 9, 3) := by decide +kernel
theorem dX6_copyFrom_8 : decode cX6_copyFrom 8 = .ok (.aload_n 0, 1) := by decide +kernel
theorem dX6_copyFrom_9 : decode cX6_copyFrom 9 = .ok (.aload_n 1, 1) := by decide +kernel
theorem dX6_copyFrom_10 : decode cX6_copyFrom 10 = .ok (.getfield 15, 3) := by decide +kernel
theorem dX6_copyFrom_13 : decode cX6_copyFrom 13 = .ok (.putfield 15, 3) := by decide +kernel
theorem dX6_copyFrom_16 : decode cX6_copyFrom 16 = .ok (.aload_n 1, 1) := by decide +kernel
theorem dX6_copyFrom_17 : decode cX6_copyFrom 17 = .ok (.getfield 18, 3) := by decide +kernel
theorem dX6_copyFrom_20 : decode cX6_copyFrom 20 = .ok (.iconst 0, 1) := by decide +kernel
theorem dX6_copyFrom_21 : decode cX6_copyFrom 21 = .ok (.aload_n 0, 1) := by decide +kernel
theorem dX6_copyFrom_22 : decode cX6_copyFrom 22 = .ok (.getfield 18, 3) := by decide +kernel
theorem dX6_copyFrom_25 : decode cX6_copyFrom 25 = .ok (.iconst 0, 1) := by decide +kernel
theorem dX6_copyFrom_26 : decode cX6_copyFrom 26 = .ok (.bipush 12, 2) := by decide +kernel
theorem dX6_copyFrom_28 : decode cX6_copyFrom 28 = .ok (.invokestatic 25, 3) := by decide +kernel
theorem dX6_copyFrom_31 : decode cX6_copyFrom 31 = .ok (.return_, 1) := by decide +kernel
theorem dX6_allInOne_0 : decode cX6_allInOne 0 = .ok (.aload_n 0, 1) := by decide +kernel
theorem dX6_allInOne_1 : decode cX6_allInOne 1 = .ok (.iload_n 1, 1) := by decide +kernel
theorem dX6_allInOne_2 : decode cX6_allInOne 2 = .ok (.putfield 9, 3) := by decide +kernel
theorem dX6_allInOne_5 : decode cX6_allInOne 5 = .ok (.aload_n 0, 1) := by decide +kernel
theorem dX6_allInOne_6 : decode cX6_allInOne 6 = .ok (.iconst 1, 1) := by decide +kernel
theorem dX6_allInOne_7 : decode cX6_allInOne 7 = .ok (.putfield 15, 3) := by decide +kernel
theorem dX6_allInOne_10 : decode cX6_allInOne 10 = .ok (.aload_n 0, 1) := by decide +kernel
theorem dX6_allInOne_11 : decode cX6_allInOne 11 = .ok (.getfield 18, 3) := by decide +kernel
theorem dX6_allInOne_14 : decode cX6_allInOne 14 = .ok (.iconst 0, 1) := by decide +kernel
theorem dX6_allInOne_15 : decode cX6_allInOne 15 = .ok (.invokestatic 31, 3) := by decide +kernel
theorem dX6_allInOne_18 : decode cX6_allInOne 18 = .ok (.return_, 1) := by decide +kernel
theorem dX6_renumber_0 : decode cX6_renumber 0 = .ok (.aload_n 0, 1) := by decide +kernel
theorem dX6_renumber_1 : decode cX6_renumber 1 = .ok (.getfield 22, 3) := by decide +kernel
theorem dX6_renumber_4 : decode cX6_renumber 4 = .ok (.iconst (-1), 1) := by decide +kernel
theorem dX6_renumber_5 : decode cX6_renumber 5 = .ok (.invokestatic 31, 3) := by decide +kernel
theorem dX6_renumber_8 : decode cX6_renumber 8 = .ok (.aload_n 0, 1) := by decide +kernel
theorem dX6_renumber_9 : decode cX6_renumber 9 = .ok (.iconst 0, 1) := by decide +kernel
theorem dX6_renumber_10 : decode cX6_renumber 10 = .ok (.putfield 15, 3) := by decide +kernel
theorem dX6_renumber_13 : decode cX6_renumber 13 = .ok (.iconst 0, 1) := by decide +kernel
theorem dX6_renumber_14 : decode cX6_renumber 14 = .ok (.istore_n 1, 1) := by decide +kernel
theorem dX6_renumber_15 : decode cX6_renumber 15 = .ok (.iload_n 1, 1) := by decide +kernel
theorem dX6_renumber_16 : decode cX6_renumber 16 = .ok (.aload_n 0, 1) := by decide +kernel
theorem dX6_renumber_17 : decode cX6_renumber 17 = .ok (.getfield 9, 3) := by decide +kernel
theorem dX6_renumber_20 : decode cX6_renumber 20 = .ok (.if_icmp .ge 74, 3) := by decide +kernel
theorem dX6_renumber_23 : decode cX6_renumber 23 = .ok (.aload_n 0, 1) := by decide +kernel
theorem dX6_renumber_24 : decode cX6_renumber 24 = .ok (.getfield 18, 3) := by decide +kernel
theorem dX6_renumber_27 : decode cX6_renumber 27 = .ok (.iload_n 1, 1) := by decide +kernel
theorem dX6_renumber_28 : decode cX6_renumber 28 = .ok (.iaload, 1) := by decide +kernel
theorem dX6_renumber_29 : decode cX6_renumber 29 = .ok (.istore_n 2, 1) := by decide +kernel
theorem dX6_renumber_30 : decode cX6_renumber 30 = .ok (.iload_n 2, 1) := by decide +kernel
theorem dX6_renumber_31 : decode cX6_renumber 31 = .ok (.ifCond .lt 57, 3) := by decide +kernel
theorem dX6_renumber_34 : decode cX6_renumber 34 = .ok (.iload_n 2, 1) := by decide +kernel
theorem dX6_renumber_35 : decode cX6_renumber 35 = .ok (.aload_n 0, 1) := by decide +kernel
theorem dX6_renumber_36 : decode cX6_renumber 36 = .ok (.getfield 22, 3) := by decide +kernel
theorem dX6_renumber_39 : decode cX6_renumber 39 = .ok (.arraylength, 1) := by decide +kernel
theorem dX6_renumber_40 : decode cX6_renumber 40 = .ok (.if_icmp .lt 6, 3) := by decide +kernel
theorem dX6_renumber_43 : decode cX6_renumber 43 = .ok (.goto 45, 3) := by decide +kernel
theorem dX6_renumber_46 : decode cX6_renumber 46 = .ok (.aload_n 0, 1) := by decide +kernel
theorem dX6_renumber_47 : decode cX6_renumber 47 = .ok (.getfield 22, 3) := by decide +kernel
theorem dX6_renumber_50 : decode cX6_renumber 50 = .ok (.iload_n 2, 1) := by decide +kernel
theorem dX6_renumber_51 : decode cX6_renumber 51 = .ok (.iaload, 1) := by decide +kernel
theorem dX6_renumber_52 : decode cX6_renumber 52 = .ok (.iconst (-1), 1) := by decide +kernel
theorem dX6_renumber_53 : decode cX6_renumber 53 = .ok (.if_icmp .ne 23, 3) := by decide +kernel
theorem dX6_renumber_56 : decode cX6_renumber 56 = .ok (.aload_n 0, 1) := by decide +kernel
theorem dX6_renumber_57 : decode cX6_renumber 57 = .ok (.getfield 22, 3) := by decide +kernel
theorem dX6_renumber_60 : decode cX6_renumber 60 = .ok (.iload_n 2, 1) := by decide +kernel
theorem dX6_renumber_61 : decode cX6_renumber 61 = .ok (.aload_n 0, 1) := by decide +kernel
theorem dX6_renumber_62 : decode cX6_renumber 62 = .ok (.getfield 15, 3) := by decide +kernel
theorem dX6_renumber_65 : decode cX6_renumber 65 = .ok (.iastore, 1) := by decide +kernel
theorem dX6_renumber_66 : decode cX6_renumber 66 = .ok (.aload_n 0, 1) := by decide +kernel
theorem dX6_renumber_67 : decode cX6_renumber 67 = .ok (.dup, 1) := by decide +kernel
theorem dX6_renumber_68 : decode cX6_renumber 68 = .ok (.getfield 15, 3) := by decide +kernel
theorem dX6_renumber_71 : decode cX6_renumber 71 = .ok (.iconst 1, 1) := by decide +kernel
theorem dX6_renumber_72 : decode cX6_renumber 72 = .ok (.iadd, 1) := by decide +kernel
theorem dX6_renumber_73 : decode cX6_renumber 73 = .ok (.putfield 15, 3) := by decide +kernel
theorem dX6_renumber_76 : decode cX6_renumber 76 = .ok (.aload_n 0, 1) := by decide +kernel
theorem dX6_renumber_77 : decode cX6_renumber 77 = .ok (.getfield 18, 3) := by decide +kernel
theorem dX6_renumber_80 : decode cX6_renumber 80 = .ok (.iload_n 1, 1) := by decide +kernel
theorem dX6_renumber_81 : decode cX6_renumber 81 = .ok (.aload_n 0, 1) := by decide +kernel
theorem dX6_renumber_82 : decode cX6_renumber 82 = .ok (.getfield 22, 3) := by decide +kernel
theorem dX6_renumber_85 : decode cX6_renumber 85 = .ok (.iload_n 2, 1) := by decide +kernel
theorem dX6_renumber_86 : decode cX6_renumber 86 = .ok (.iaload, 1) := by decide +kernel
theorem dX6_renumber_87 : decode cX6_renumber 87 = .ok (.iastore, 1) := by decide +kernel
theorem dX6_renumber_88 : decode cX6_renumber 88 = .ok (.iinc 1 1, 3) := by decide +kernel
theorem dX6_renumber_91 : decode cX6_renumber 91 = .ok (.goto (-76), 3) := by decide +kernel
theorem dX6_renumber_94 : decode cX6_renumber 94 = .ok (.return_, 1) := by decide +kernel
theorem dX6_membersOf_0 : decode cX6_membersOf 0 = .ok (.iconst 0, 1) := by decide +kernel
theorem dX6_membersOf_1 : decode cX6_membersOf 1 = .ok (.istore_n 2, 1) := by decide +kernel
theorem dX6_membersOf_2 : decode cX6_membersOf 2 = .ok (.iconst 0, 1) := by decide +kernel
theorem dX6_membersOf_3 : decode cX6_membersOf 3 = .ok (.istore_n 3, 1) := by decide +kernel
theorem dX6_membersOf_4 : decode cX6_membersOf 4 = .ok (.iload_n 3, 1) := by decide +kernel
theorem dX6_membersOf_5 : decode cX6_membersOf 5 = .ok (.aload_n 0, 1) := by decide +kernel
theorem dX6_membersOf_6 : decode cX6_membersOf 6 = .ok (.getfield 9, 3) := by decide +kernel
theorem dX6_membersOf_9 : decode cX6_membersOf 9 = .ok (.if_icmp .ge 25, 3) := by decide +kernel
theorem dX6_membersOf_12 : decode cX6_membersOf 12 = .ok (.aload_n 0, 1) := by decide +kernel
theorem dX6_membersOf_13 : decode cX6_membersOf 13 = .ok (.getfield 18, 3) := by decide +kernel
theorem dX6_membersOf_16 : decode cX6_membersOf 16 = .ok (.iload_n 3, 1) := by decide +kernel
