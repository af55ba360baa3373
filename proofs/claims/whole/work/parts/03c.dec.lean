theorem dX11_cost_20 : decode cX11_cost 20 = .ok (.getfield 10, 3) := by decide +kernel
theorem dX11_cost_23 : decode cX11_cost 23 = .ok (.iload_n 1, 1) := by decide +kernel
theorem dX11_cost_24 : decode cX11_cost 24 = .ok (.aload_n 0, 1) := by decide +kernel
theorem dX11_cost_25 : decode cX11_cost 25 = .ok (.getfield 10, 3) := by decide +kernel
theorem dX11_cost_28 : decode cX11_cost 28 = .ok (.getfield 163, 3) := by decide +kernel
theorem dX11_cost_31 : decode cX11_cost 31 = .ok (.invokestatic 187, 3) := by decide +kernel
theorem dX11_cost_34 : decode cX11_cost 34 = .ok (.lreturn, 1) := by decide +kernel
theorem dX11_middle_0 : decode cX11_middle 0 = .ok (.iload_n 1, 1) := by decide +kernel
theorem dX11_middle_1 : decode cX11_middle 1 = .ok (.ifCond .lt 17, 3) := by decide +kernel
theorem dX11_middle_4 : decode cX11_middle 4 = .ok (.iload_n 1, 1) := by decide +kernel
theorem dX11_middle_5 : decode cX11_middle 5 = .ok (.aload_n 0, 1) := by decide +kernel
theorem dX11_middle_6 : decode cX11_middle 6 = .ok (.getfield 10, 3) := by decide +kernel
theorem dX11_middle_9 : decode cX11_middle 9 = .ok (.getfield 163, 3) := by decide +kernel
theorem dX11_middle_12 : decode cX11_middle 12 = .ok (.getfield 166, 3) := by decide +kernel
theorem dX11_middle_15 : decode cX11_middle 15 = .ok (.if_icmp .lt 9, 3) := by decide +kernel
theorem dX11_middle_18 : decode cX11_middle 18 = .ok (.aload_n 0, 1) := by decide +kernel
theorem dX11_middle_19 : decode cX11_middle 19 = .ok (.iconst 1, 1) := by decide +kernel
theorem dX11_middle_20 : decode cX11_middle 20 = .ok (.invokevirtual 105, 3) := by decide +kernel
theorem dX11_middle_23 : decode cX11_middle 23 = .ok (.ireturn, 1) := by decide +kernel
theorem dX11_middle_24 : decode cX11_middle 24 = .ok (.aload_n 0, 1) := by decide +kernel
theorem dX11_middle_25 : decode cX11_middle 25 = .ok (.iconst 0, 1) := by decide +kernel
theorem dX11_middle_26 : decode cX11_middle 26 = .ok (.putfield 83, 3) := by decide +kernel
theorem dX11_middle_29 : decode cX11_middle 29 = .ok (.aload_n 0, 1) := by decide +kernel
theorem dX11_middle_30 : decode cX11_middle 30 = .ok (.getfield 10, 3) := by decide +kernel
theorem dX11_middle_33 : decode cX11_middle 33 = .ok (.aload_n 0, 1) := by decide +kernel
theorem dX11_middle_34 : decode cX11_middle 34 = .ok (.getfield 10, 3) := by decide +kernel
theorem dX11_middle_37 : decode cX11_middle 37 = .ok (.getfield 163, 3) := by decide +kernel
theorem dX11_middle_40 : decode cX11_middle 40 = .ok (.iload_n 1, 1) := by decide +kernel
theorem dX11_middle_41 : decode cX11_middle 41 = .ok (.invokevirtual 193, 3) := by decide +kernel
theorem dX11_middle_44 : decode cX11_middle 44 = .ok (.invokestatic 196, 3) := by decide +kernel
theorem dX11_middle_47 : decode cX11_middle 47 = .ok (.ireturn, 1) := by decide +kernel
theorem dX11_best_0 : decode cX11_best 0 = .ok (.iload_n 1, 1) := by decide +kernel
theorem dX11_best_1 : decode cX11_best 1 = .ok (.invokestatic 184, 3) := by decide +kernel
theorem dX11_best_4 : decode cX11_best 4 = .ok (.ifCond .eq 18, 3) := by decide +kernel
theorem dX11_best_7 : decode cX11_best 7 = .ok (.iload_n 2, 1) := by decide +kernel
theorem dX11_best_8 : decode cX11_best 8 = .ok (.ifCond .lt 14, 3) := by decide +kernel
theorem dX11_best_11 : decode cX11_best 11 = .ok (.iload_n 2, 1) := by decide +kernel
theorem dX11_best_12 : decode cX11_best 12 = .ok (.aload_n 0, 1) := by decide +kernel
theorem dX11_best_13 : decode cX11_best 13 = .ok (.getfield 10, 3) := by decide +kernel
theorem dX11_best_16 : decode cX11_best 16 = .ok (.getfield 147, 3) := by decide +kernel
theorem dX11_best_19 : decode cX11_best 19 = .ok (.if_icmp .le 10, 3) := by decide +kernel
theorem dX11_best_22 : decode cX11_best 22 = .ok (.aload_n 0, 1) := by decide +kernel
theorem dX11_best_23 : decode cX11_best 23 = .ok (.iconst 1, 1) := by decide +kernel
theorem dX11_best_24 : decode cX11_best 24 = .ok (.invokevirtual 105, 3) := by decide +kernel
theorem dX11_best_27 : decode cX11_best 27 = .ok (.i2l, 1) := by decide +kernel
theorem dX11_best_28 : decode cX11_best 28 = .ok (.lreturn, 1) := by decide +kernel
theorem dX11_best_29 : decode cX11_best 29 = .ok (.aload_n 0, 1) := by decide +kernel
theorem dX11_best_30 : decode cX11_best 30 = .ok (.getfield 10, 3) := by decide +kernel
theorem dX11_best_33 : decode cX11_best 33 = .ok (.getfield 147, 3) := by decide +kernel
theorem dX11_best_36 : decode cX11_best 36 = .ok (.bipush 9, 2) := by decide +kernel
theorem dX11_best_38 : decode cX11_best 38 = .ok (.if_icmp .le 10, 3) := by decide +kernel
theorem dX11_best_41 : decode cX11_best 41 = .ok (.aload_n 0, 1) := by decide +kernel
theorem dX11_best_42 : decode cX11_best 42 = .ok (.iconst 3, 1) := by decide +kernel
theorem dX11_best_43 : decode cX11_best 43 = .ok (.invokevirtual 105, 3) := by decide +kernel
theorem dX11_best_46 : decode cX11_best 46 = .ok (.i2l, 1) := by decide +kernel
theorem dX11_best_47 : decode cX11_best 47 = .ok (.lreturn, 1) := by decide +kernel
theorem dX11_best_48 : decode cX11_best 48 = .ok (.aload_n 0, 1) := by decide +kernel
theorem dX11_best_49 : decode cX11_best 49 = .ok (.invokevirtual 95, 3) := by decide +kernel
theorem dX11_best_52 : decode cX11_best 52 = .ok (.iload_n 2, 1) := by decide +kernel
theorem dX11_best_53 : decode cX11_best 53 = .ok (.ifCond .ne 7, 3) := by decide +kernel
theorem dX11_best_56 : decode cX11_best 56 = .ok (.iconst 1, 1) := by decide +kernel
theorem dX11_best_57 : decode cX11_best 57 = .ok (.goto 4, 3) := by decide +kernel
theorem dX11_best_60 : decode cX11_best 60 = .ok (.iload_n 2, 1) := by decide +kernel
theorem dX11_best_61 : decode cX11_best 61 = .ok (.istore_n 3, 1) := by decide +kernel
theorem dX11_best_62 : decode cX11_best 62 = .ok (.iload_n 2, 1) := by decide +kernel
theorem dX11_best_63 : decode cX11_best 63 = .ok (.ifCond .ne 13, 3) := by decide +kernel
theorem dX11_best_66 : decode cX11_best 66 = .ok (.aload_n 0, 1) := by decide +kernel
theorem dX11_best_67 : decode cX11_best 67 = .ok (.getfield 10, 3) := by decide +kernel
theorem dX11_best_70 : decode cX11_best 70 = .ok (.getfield 147, 3) := by decide +kernel
theorem dX11_best_73 : decode cX11_best 73 = .ok (.goto 4, 3) := by decide +kernel
theorem dX11_best_76 : decode cX11_best 76 = .ok (.iload_n 2, 1) := by decide +kernel
theorem dX11_best_77 : decode cX11_best 77 = .ok (.istore 4, 2) := by decide +kernel
theorem dX11_best_79 : decode cX11_best 79 = .ok (.aload_n 0, 1) := by decide +kernel
theorem dX11_best_80 : decode cX11_best 80 = .ok (.getfield 51, 3) := by decide +kernel
theorem dX11_best_83 : decode cX11_best 83 = .ok (.aload_n 0, 1) := by decide +kernel
theorem dX11_best_84 : decode cX11_best 84 = .ok (.getfield 10, 3) := by decide +kernel
theorem dX11_best_87 : decode cX11_best 87 = .ok (.iload_n 1, 1) := by decide +kernel
theorem dX11_best_88 : decode cX11_best 88 = .ok (.iload_n 3, 1) := by decide +kernel
theorem dX11_best_89 : decode cX11_best 89 = .ok (.iload 4, 2) := by decide +kernel
theorem dX11_best_91 : decode cX11_best 91 = .ok (.invokevirtual 200, 3) := by decide +kernel
theorem dX11_best_94 : decode cX11_best 94 = .ok (.lreturn, 1) := by decide +kernel
theorem dX11_line_0 : decode cX11_line 0 = .ok (.iload_n 1, 1) := by decide +kernel
theorem dX11_line_1 : decode cX11_line 1 = .ok (.ifCond .lt 24, 3) := by decide +kernel
theorem dX11_line_4 : decode cX11_line 4 = .ok (.iload_n 1, 1) := by decide +kernel
theorem dX11_line_5 : decode cX11_line 5 = .ok (.iconst 2, 1) := by decide +kernel
theorem dX11_line_6 : decode cX11_line 6 = .ok (.if_icmp .gt 19, 3) := by decide +kernel
theorem dX11_line_9 : decode cX11_line 9 = .ok (.iload_n 2, 1) := by decide +kernel
theorem dX11_line_10 : decode cX11_line 10 = .ok (.iconst 1, 1) := by decide +kernel
theorem dX11_line_11 : decode cX11_line 11 = .ok (.if_icmp .lt 14, 3) := by decide +kernel
theorem dX11_line_14 : decode cX11_line 14 = .ok (.iload_n 2, 1) := by decide +kernel
theorem dX11_line_15 : decode cX11_line 15 = .ok (.aload_n 0, 1) := by decide +kernel
theorem dX11_line_16 : decode cX11_line 16 = .ok (.getfield 10, 3) := by decide +kernel
theorem dX11_line_19 : decode cX11_line 19 = .ok (.getfield 147, 3) := by decide +kernel
theorem dX11_line_22 : decode cX11_line 22 = .ok (.if_icmp .le 10, 3) := by decide +kernel
theorem dX11_line_25 : decode cX11_line 25 = .ok (.aload_n 0, 1) := by decide +kernel
theorem dX11_line_26 : decode cX11_line 26 = .ok (.iconst 1, 1) := by decide +kernel
theorem dX11_line_27 : decode cX11_line 27 = .ok (.invokevirtual 105, 3) := by decide +kernel
theorem dX11_line_30 : decode cX11_line 30 = .ok (.i2l, 1) := by decide +kernel
theorem dX11_line_31 : decode cX11_line 31 = .ok (.lreturn, 1) := by decide +kernel
theorem dX11_line_32 : decode cX11_line 32 = .ok (.aload_n 0, 1) := by decide +kernel
theorem dX11_line_33 : decode cX11_line 33 = .ok (.invokevirtual 95, 3) := by decide +kernel
theorem dX11_line_36 : decode cX11_line 36 = .ok (.aload_n 0, 1) := by decide +kernel
theorem dX11_line_37 : decode cX11_line 37 = .ok (.getfield 58, 3) := by decide +kernel
theorem dX11_line_40 : decode cX11_line 40 = .ok (.aload_n 0, 1) := by decide +kernel
theorem dX11_line_41 : decode cX11_line 41 = .ok (.getfield 10, 3) := by decide +kernel
theorem dX11_line_44 : decode cX11_line 44 = .ok (.iload_n 1, 1) := by decide +kernel
theorem dX11_line_45 : decode cX11_line 45 = .ok (.iload_n 2, 1) := by decide +kernel
theorem dX11_line_46 : decode cX11_line 46 = .ok (.invokevirtual 204, 3) := by decide +kernel
theorem dX11_line_49 : decode cX11_line 49 = .ok (.lreturn, 1) := by decide +kernel
theorem dX11_better_0 : decode cX11_better 0 = .ok (.iload_n 1, 1) := by decide +kernel
theorem dX11_better_1 : decode cX11_better 1 = .ok (.invokestatic 184, 3) := by decide +kernel
theorem dX11_better_4 : decode cX11_better 4 = .ok (.ifCond .ne 9, 3) := by decide +kernel
theorem dX11_better_7 : decode cX11_better 7 = .ok (.aload_n 0, 1) := by decide +kernel
theorem dX11_better_8 : decode cX11_better 8 = .ok (.iconst 1, 1) := by decide +kernel
theorem dX11_better_9 : decode cX11_better 9 = .ok (.invokevirtual 105, 3) := by decide +kernel
theorem dX11_better_12 : decode cX11_better 12 = .ok (.ireturn, 1) := by decide +kernel
theorem dX11_better_13 : decode cX11_better 13 = .ok (.aload_n 0, 1) := by decide +kernel
theorem dX11_better_14 : decode cX11_better 14 = .ok (.invokevirtual 95, 3) := by decide +kernel
theorem dX11_better_17 : decode cX11_better 17 = .ok (.aload_n 0, 1) := by decide +kernel
theorem dX11_better_18 : decode cX11_better 18 = .ok (.getfield 65, 3) := by decide +kernel
theorem dX11_better_21 : decode cX11_better 21 = .ok (.aload_n 0, 1) := by decide +kernel
theorem dX11_better_22 : decode cX11_better 22 = .ok (.getfield 10, 3) := by decide +kernel
theorem dX11_better_25 : decode cX11_better 25 = .ok (.iload_n 1, 1) := by decide +kernel
theorem dX11_better_26 : decode cX11_better 26 = .ok (.invokevirtual 207, 3) := by decide +kernel
theorem dX11_better_29 : decode cX11_better 29 = .ok (.ireturn, 1) := by decide +kernel
theorem dX11_two_0 : decode cX11_two 0 = .ok (.aload_n 0, 1) := by decide +kernel
theorem dX11_two_1 : decode cX11_two 1 = .ok (.invokevirtual 95, 3) := by decide +kernel
theorem dX11_two_4 : decode cX11_two 4 = .ok (.aload_n 0, 1) := by decide +kernel
theorem dX11_two_5 : decode cX11_two 5 = .ok (.getfield 51, 3) := by decide +kernel
theorem dX11_two_8 : decode cX11_two 8 = .ok (.aload_n 0, 1) := by decide +kernel
theorem dX11_two_9 : decode cX11_two 9 = .ok (.getfield 10, 3) := by decide +kernel
theorem dX11_two_12 : decode cX11_two 12 = .ok (.iconst 2, 1) := by decide +kernel
theorem dX11_two_13 : decode cX11_two 13 = .ok (.iconst 1, 1) := by decide +kernel
theorem dX11_two_14 : decode cX11_two 14 = .ok (.iconst 2, 1) := by decide +kernel
theorem dX11_two_15 : decode cX11_two 15 = .ok (.invokevirtual 200, 3) := by decide +kernel
theorem dX11_two_18 : decode cX11_two 18 = .ok (.l2i, 1) := by decide +kernel
theorem dX11_two_19 : decode cX11_two 19 = .ok (.ireturn, 1) := by decide +kernel
theorem dX11_centres_0 : decode cX11_centres 0 = .ok (.iload_n 1, 1) := by decide +kernel
theorem dX11_centres_1 : decode cX11_centres 1 = .ok (.iconst 1, 1) := by decide +kernel
theorem dX11_centres_2 : decode cX11_centres 2 = .ok (.if_icmp .lt 14, 3) := by decide +kernel
theorem dX11_centres_5 : decode cX11_centres 5 = .ok (.iload_n 1, 1) := by decide +kernel
theorem dX11_centres_6 : decode cX11_centres 6 = .ok (.aload_n 0, 1) := by decide +kernel
theorem dX11_centres_7 : decode cX11_centres 7 = .ok (.getfield 10, 3) := by decide +kernel
theorem dX11_centres_10 : decode cX11_centres 10 = .ok (.getfield 147, 3) := by decide +kernel
theorem dX11_centres_13 : decode cX11_centres 13 = .ok (.if_icmp .le 9, 3) := by decide +kernel
theorem dX11_centres_16 : decode cX11_centres 16 = .ok (.aload_n 0, 1) := by decide +kernel
theorem dX11_centres_17 : decode cX11_centres 17 = .ok (.iconst 1, 1) := by decide +kernel
theorem dX11_centres_18 : decode cX11_centres 18 = .ok (.invokevirtual 105, 3) := by decide +kernel
theorem dX11_centres_21 : decode cX11_centres 21 = .ok (.ireturn, 1) := by decide +kernel
theorem dX11_centres_22 : decode cX11_centres 22 = .ok (.aload_n 0, 1) := by decide +kernel
theorem dX11_centres_23 : decode cX11_centres 23 = .ok (.invokevirtual 95, 3) := by decide +kernel
theorem dX11_centres_26 : decode cX11_centres 26 = .ok (.aload_n 0, 1) := by decide +kernel
theorem dX11_centres_27 : decode cX11_centres 27 = .ok (.getfield 10, 3) := by decide +kernel
theorem dX11_centres_30 : decode cX11_centres 30 = .ok (.iload_n 1, 1) := by decide +kernel
theorem dX11_centres_31 : decode cX11_centres 31 = .ok (.invokevirtual 209, 3) := by decide +kernel
theorem dX11_centres_34 : decode cX11_centres 34 = .ok (.ireturn, 1) := by decide +kernel
theorem dX11_third_0 : decode cX11_third 0 = .ok (.aload_n 0, 1) := by decide +kernel
theorem dX11_third_1 : decode cX11_third 1 = .ok (.invokevirtual 95, 3) := by decide +kernel
theorem dX11_third_4 : decode cX11_third 4 = .ok (.aload_n 0, 1) := by decide +kernel
theorem dX11_third_5 : decode cX11_third 5 = .ok (.getfield 72, 3) := by decide +kernel
theorem dX11_third_8 : decode cX11_third 8 = .ok (.iload_n 1, 1) := by decide +kernel
theorem dX11_third_9 : decode cX11_third 9 = .ok (.aload_n 0, 1) := by decide +kernel
theorem dX11_third_10 : decode cX11_third 10 = .ok (.getfield 10, 3) := by decide +kernel
theorem dX11_third_13 : decode cX11_third 13 = .ok (.getfield 147, 3) := by decide +kernel
theorem dX11_third_16 : decode cX11_third 16 = .ok (.invokevirtual 212, 3) := by decide +kernel
theorem dX11_third_19 : decode cX11_third 19 = .ok (.aload_n 0, 1) := by decide +kernel
theorem dX11_third_20 : decode cX11_third 20 = .ok (.getfield 72, 3) := by decide +kernel
theorem dX11_third_23 : decode cX11_third 23 = .ok (.aload_n 0, 1) := by decide +kernel
theorem dX11_third_24 : decode cX11_third 24 = .ok (.getfield 10, 3) := by decide +kernel
theorem dX11_third_27 : decode cX11_third 27 = .ok (.invokevirtual 215, 3) := by decide +kernel
theorem dX11_third_30 : decode cX11_third 30 = .ok (.aload_n 0, 1) := by decide +kernel
theorem dX11_third_31 : decode cX11_third 31 = .ok (.getfield 10, 3) := by decide +kernel
theorem dX11_third_34 : decode cX11_third 34 = .ok (.iconst 3, 1) := by decide +kernel
theorem dX11_third_35 : decode cX11_third 35 = .ok (.aload_n 0, 1) := by decide +kernel
theorem dX11_third_36 : decode cX11_third 36 = .ok (.getfield 10, 3) := by decide +kernel
theorem dX11_third_39 : decode cX11_third 39 = .ok (.getfield 163, 3) := by decide +kernel
theorem dX11_third_42 : decode cX11_third 42 = .ok (.invokestatic 187, 3) := by decide +kernel
theorem dX11_third_45 : decode cX11_third 45 = .ok (.lreturn, 1) := by decide +kernel
theorem dX11_thirds_0 : decode cX11_thirds 0 = .ok (.aload_n 0, 1) := by decide +kernel
theorem dX11_thirds_1 : decode cX11_thirds 1 = .ok (.getfield 10, 3) := by decide +kernel
theorem dX11_thirds_4 : decode cX11_thirds 4 = .ok (.getfield 147, 3) := by decide +kernel
theorem dX11_thirds_7 : decode cX11_thirds 7 = .ok (.bipush 7, 2) := by decide +kernel
theorem dX11_thirds_9 : decode cX11_thirds 9 = .ok (.if_icmp .le 10, 3) := by decide +kernel
theorem dX11_thirds_12 : decode cX11_thirds 12 = .ok (.aload_n 0, 1) := by decide +kernel
theorem dX11_thirds_13 : decode cX11_thirds 13 = .ok (.iconst 3, 1) := by decide +kernel
theorem dX11_thirds_14 : decode cX11_thirds 14 = .ok (.invokevirtual 105, 3) := by decide +kernel
theorem dX11_thirds_17 : decode cX11_thirds 17 = .ok (.i2l, 1) := by decide +kernel
theorem dX11_thirds_18 : decode cX11_thirds 18 = .ok (.lreturn, 1) := by decide +kernel
theorem dX11_thirds_19 : decode cX11_thirds 19 = .ok (.aload_n 0, 1) := by decide +kernel
theorem dX11_thirds_20 : decode cX11_thirds 20 = .ok (.iconst 0, 1) := by decide +kernel
theorem dX11_thirds_21 : decode cX11_thirds 21 = .ok (.putfield 83, 3) := by decide +kernel
theorem dX11_thirds_24 : decode cX11_thirds 24 = .ok (.aload_n 0, 1) := by decide +kernel
theorem dX11_thirds_25 : decode cX11_thirds 25 = .ok (.getfield 72, 3) := by decide +kernel
theorem dX11_thirds_28 : decode cX11_thirds 28 = .ok (.aload_n 0, 1) := by decide +kernel
theorem dX11_thirds_29 : decode cX11_thirds 29 = .ok (.getfield 10, 3) := by decide +kernel
theorem dX11_thirds_32 : decode cX11_thirds 32 = .ok (.invokevirtual 219, 3) := by decide +kernel
theorem dX11_thirds_35 : decode cX11_thirds 35 = .ok (.lreturn, 1) := by decide +kernel
theorem dX11_rounds_0 : decode cX11_rounds 0 = .ok (.aload_n 0, 1) := by decide +kernel
theorem dX11_rounds_1 : decode cX11_rounds 1 = .ok (.iconst 0, 1) := by decide +kernel
theorem dX11_rounds_2 : decode cX11_rounds 2 = .ok (.putfield 83, 3) := by decide +kernel
theorem dX11_rounds_5 : decode cX11_rounds 5 = .ok (.aload_n 0, 1) := by decide +kernel
theorem dX11_rounds_6 : decode cX11_rounds 6 = .ok (.getfield 10, 3) := by decide +kernel
theorem dX11_rounds_9 : decode cX11_rounds 9 = .ok (.invokestatic 223, 3) := by decide +kernel
theorem dX11_rounds_12 : decode cX11_rounds 12 = .ok (.ireturn, 1) := by decide +kernel
theorem dX11_tree_0 : decode cX11_tree 0 = .ok (.iload_n 1, 1) := by decide +kernel
theorem dX11_tree_1 : decode cX11_tree 1 = .ok (.ifCond .lt 8, 3) := by decide +kernel
theorem dX11_tree_4 : decode cX11_tree 4 = .ok (.iload_n 1, 1) := by decide +kernel
theorem dX11_tree_5 : decode cX11_tree 5 = .ok (.iconst 1, 1) := by decide +kernel
theorem dX11_tree_6 : decode cX11_tree 6 = .ok (.if_icmp .le 9, 3) := by decide +kernel
theorem dX11_tree_9 : decode cX11_tree 9 = .ok (.aload_n 0, 1) := by decide +kernel
theorem dX11_tree_10 : decode cX11_tree 10 = .ok (.iconst 1, 1) := by decide +kernel
theorem dX11_tree_11 : decode cX11_tree 11 = .ok (.invokevirtual 105, 3) := by decide +kernel
theorem dX11_tree_14 : decode cX11_tree 14 = .ok (.ireturn, 1) := by decide +kernel
theorem dX11_tree_15 : decode cX11_tree 15 = .ok (.aload_n 0, 1) := by decide +kernel
theorem dX11_tree_16 : decode cX11_tree 16 = .ok (.iconst 0, 1) := by decide +kernel
theorem dX11_tree_17 : decode cX11_tree 17 = .ok (.putfield 83, 3) := by decide +kernel
theorem dX11_tree_20 : decode cX11_tree 20 = .ok (.aload_n 0, 1) := by decide +kernel
theorem dX11_tree_21 : decode cX11_tree 21 = .ok (.getfield 33, 3) := by decide +kernel
theorem dX11_tree_24 : decode cX11_tree 24 = .ok (.aload_n 0, 1) := by decide +kernel
theorem dX11_tree_25 : decode cX11_tree 25 = .ok (.getfield 10, 3) := by decide +kernel
theorem dX11_tree_28 : decode cX11_tree 28 = .ok (.iload_n 1, 1) := by decide +kernel
theorem dX11_tree_29 : decode cX11_tree 29 = .ok (.invokevirtual 227, 3) := by decide +kernel
theorem dX11_tree_32 : decode cX11_tree 32 = .ok (.aload_n 0, 1) := by decide +kernel
theorem dX11_tree_33 : decode cX11_tree 33 = .ok (.getfield 33, 3) := by decide +kernel
theorem dX11_tree_36 : decode cX11_tree 36 = .ok (.getfield 176, 3) := by decide +kernel
theorem dX11_tree_39 : decode cX11_tree 39 = .ok (.ireturn, 1) := by decide +kernel
theorem dX11_joined_0 : decode cX11_joined 0 = .ok (.aload_n 0, 1) := by decide +kernel
theorem dX11_joined_1 : decode cX11_joined 1 = .ok (.getfield 33, 3) := by decide +kernel
theorem dX11_joined_4 : decode cX11_joined 4 = .ok (.getfield 176, 3) := by decide +kernel
theorem dX11_joined_7 : decode cX11_joined 7 = .ok (.iconst (-1), 1) := by decide +kernel
theorem dX11_joined_8 : decode cX11_joined 8 = .ok (.if_icmp .ne 9, 3) := by decide +kernel
theorem dX11_joined_11 : decode cX11_joined 11 = .ok (.aload_n 0, 1) := by decide +kernel
theorem dX11_joined_12 : decode cX11_joined 12 = .ok (.iconst 2, 1) := by decide +kernel
theorem dX11_joined_13 : decode cX11_joined 13 = .ok (.invokevirtual 105, 3) := by decide +kernel
theorem dX11_joined_16 : decode cX11_joined 16 = .ok (.ireturn, 1) := by decide +kernel
theorem dX11_joined_17 : decode cX11_joined 17 = .ok (.iload_n 1, 1) := by decide +kernel
theorem dX11_joined_18 : decode cX11_joined 18 = .ok (.ifCond .lt 14, 3) := by decide +kernel
theorem dX11_joined_21 : decode cX11_joined 21 = .ok (.iload_n 1, 1) := by decide +kernel
theorem dX11_joined_22 : decode cX11_joined 22 = .ok (.aload_n 0, 1) := by decide +kernel
theorem dX11_joined_23 : decode cX11_joined 23 = .ok (.getfield 33, 3) := by decide +kernel
theorem dX11_joined_26 : decode cX11_joined 26 = .ok (.getfield 176, 3) := by decide +kernel
theorem dX11_joined_29 : decode cX11_joined 29 = .ok (.if_icmp .lt 9, 3) := by decide +kernel
theorem dX11_joined_32 : decode cX11_joined 32 = .ok (.aload_n 0, 1) := by decide +kernel
theorem dX11_joined_33 : decode cX11_joined 33 = .ok (.iconst 1, 1) := by decide +kernel
theorem dX11_joined_34 : decode cX11_joined 34 = .ok (.invokevirtual 105, 3) := by decide +kernel
theorem dX11_joined_37 : decode cX11_joined 37 = .ok (.ireturn, 1) := by decide +kernel
theorem dX11_joined_38 : decode cX11_joined 38 = .ok (.aload_n 0, 1) := by decide +kernel
theorem dX11_joined_39 : decode cX11_joined 39 = .ok (.iconst 0, 1) := by decide +kernel
theorem dX11_joined_40 : decode cX11_joined 40 = .ok (.putfield 83, 3) := by decide +kernel
theorem dX11_joined_43 : decode cX11_joined 43 = .ok (.iload_n 2, 1) := by decide +kernel
theorem dX11_joined_44 : decode cX11_joined 44 = .ok (.tableswitch 58 0 2 #[28, 38, 48], 28) := by decide +kernel
theorem dX11_joined_72 : decode cX11_joined 72 = .ok (.aload_n 0, 1) := by decide +kernel
theorem dX11_joined_73 : decode cX11_joined 73 = .ok (.getfield 33, 3) := by decide +kernel
theorem dX11_joined_76 : decode cX11_joined 76 = .ok (.getfield 231, 3) := by decide +kernel
theorem dX11_joined_79 : decode cX11_joined 79 = .ok (.iload_n 1, 1) := by decide +kernel
theorem dX11_joined_80 : decode cX11_joined 80 = .ok (.iaload, 1) := by decide +kernel
theorem dX11_joined_81 : decode cX11_joined 81 = .ok (.ireturn, 1) := by decide +kernel
theorem dX11_joined_82 : decode cX11_joined 82 = .ok (.aload_n 0, 1) := by decide +kernel
theorem dX11_joined_83 : decode cX11_joined 83 = .ok (.getfield 33, 3) := by decide +kernel
theorem dX11_joined_86 : decode cX11_joined 86 = .ok (.getfield 234, 3) := by decide +kernel
theorem dX11_joined_89 : decode cX11_joined 89 = .ok (.iload_n 1, 1) := by decide +kernel
theorem dX11_joined_90 : decode cX11_joined 90 = .ok (.iaload, 1) := by decide +kernel
theorem dX11_joined_91 : decode cX11_joined 91 = .ok (.ireturn, 1) := by decide +kernel
theorem dX11_joined_92 : decode cX11_joined 92 = .ok (.aload_n 0, 1) := by decide +kernel
theorem dX11_joined_93 : decode cX11_joined 93 = .ok (.getfield 33, 3) := by decide +kernel
theorem dX11_joined_96 : decode cX11_joined 96 = .ok (.getfield 237, 3) := by decide +kernel
theorem dX11_joined_99 : decode cX11_joined 99 = .ok (.iload_n 1, 1) := by decide +kernel
theorem dX11_joined_100 : decode cX11_joined 100 = .ok (.iaload, 1) := by decide +kernel
theorem dX11_joined_101 : decode cX11_joined 101 = .ok (.ireturn, 1) := by decide +kernel
theorem dX11_joined_102 : decode cX11_joined 102 = .ok (.aload_n 0, 1) := by decide +kernel
theorem dX11_joined_103 : decode cX11_joined 103 = .ok (.iconst 1, 1) := by decide +kernel
theorem dX11_joined_104 : decode cX11_joined 104 = .ok (.invokevirtual 105, 3) := by decide +kernel
theorem dX11_joined_107 : decode cX11_joined 107 = .ok (.ireturn, 1) := by decide +kernel
theorem dX11_height_0 : decode cX11_height 0 = .ok (.aload_n 0, 1) := by decide +kernel
theorem dX11_height_1 : decode cX11_height 1 = .ok (.iload_n 1, 1) := by decide +kernel
theorem dX11_height_2 : decode cX11_height 2 = .ok (.invokevirtual 131, 3) := by decide +kernel
theorem dX11_height_5 : decode cX11_height 5 = .ok (.ifCond .eq 11, 3) := by decide +kernel
theorem dX11_height_8 : decode cX11_height 8 = .ok (.aload_n 0, 1) := by decide +kernel
theorem dX11_height_9 : decode cX11_height 9 = .ok (.iload_n 2, 1) := by decide +kernel
theorem dX11_height_10 : decode cX11_height 10 = .ok (.invokevirtual 131, 3) := by decide +kernel
theorem dX11_height_13 : decode cX11_height 13 = .ok (.ifCond .ne 9, 3) := by decide +kernel
theorem dX11_height_16 : decode cX11_height 16 = .ok (.aload_n 0, 1) := by decide +kernel
theorem dX11_height_17 : decode cX11_height 17 = .ok (.iconst 1, 1) := by decide +kernel
theorem dX11_height_18 : decode cX11_height 18 = .ok (.invokevirtual 105, 3) := by decide +kernel
theorem dX11_height_21 : decode cX11_height 21 = .ok (.ireturn, 1) := by decide +kernel
theorem dX11_height_22 : decode cX11_height 22 = .ok (.aload_n 0, 1) := by decide +kernel
theorem dX11_height_23 : decode cX11_height 23 = .ok (.getfield 33, 3) := by decide +kernel
theorem dX11_height_26 : decode cX11_height 26 = .ok (.getfield 176, 3) := by decide +kernel
theorem dX11_height_29 : decode cX11_height 29 = .ok (.iconst (-1), 1) := by decide +kernel
theorem dX11_height_30 : decode cX11_height 30 = .ok (.if_icmp .ne 9, 3) := by decide +kernel
theorem dX11_height_33 : decode cX11_height 33 = .ok (.aload_n 0, 1) := by decide +kernel
theorem dX11_height_34 : decode cX11_height 34 = .ok (.iconst 2, 1) := by decide +kernel
theorem dX11_height_35 : decode cX11_height 35 = .ok (.invokevirtual 105, 3) := by decide +kernel
theorem dX11_height_38 : decode cX11_height 38 = .ok (.ireturn, 1) := by decide +kernel
theorem dX11_height_39 : decode cX11_height 39 = .ok (.aload_n 0, 1) := by decide +kernel
theorem dX11_height_40 : decode cX11_height 40 = .ok (.iconst 0, 1) := by decide +kernel
theorem dX11_height_41 : decode cX11_height 41 = .ok (.putfield 83, 3) := by decide +kernel
theorem dX11_height_44 : decode cX11_height 44 = .ok (.aload_n 0, 1) := by decide +kernel
theorem dX11_height_45 : decode cX11_height 45 = .ok (.getfield 33, 3) := by decide +kernel
theorem dX11_height_48 : decode cX11_height 48 = .ok (.iload_n 1, 1) := by decide +kernel
theorem dX11_height_49 : decode cX11_height 49 = .ok (.iload_n 2, 1) := by decide +kernel
theorem dX11_height_50 : decode cX11_height 50 = .ok (.invokevirtual 240, 3) := by decide +kernel
theorem dX11_height_53 : decode cX11_height 53 = .ok (.ireturn, 1) := by decide +kernel
theorem dX11_cut_0 : decode cX11_cut 0 = .ok (.aload_n 0, 1) := by decide +kernel
theorem dX11_cut_1 : decode cX11_cut 1 = .ok (.getfield 33, 3) := by decide +kernel
theorem dX11_cut_4 : decode cX11_cut 4 = .ok (.getfield 176, 3) := by decide +kernel
theorem dX11_cut_7 : decode cX11_cut 7 = .ok (.iconst (-1), 1) := by decide +kernel
theorem dX11_cut_8 : decode cX11_cut 8 = .ok (.if_icmp .ne 9, 3) := by decide +kernel
theorem dX11_cut_11 : decode cX11_cut 11 = .ok (.aload_n 0, 1) := by decide +kernel
theorem dX11_cut_12 : decode cX11_cut 12 = .ok (.iconst 2, 1) := by decide +kernel
theorem dX11_cut_13 : decode cX11_cut 13 = .ok (.invokevirtual 105, 3) := by decide +kernel
theorem dX11_cut_16 : decode cX11_cut 16 = .ok (.ireturn, 1) := by decide +kernel
theorem dX11_cut_17 : decode cX11_cut 17 = .ok (.aload_n 0, 1) := by decide +kernel
theorem dX11_cut_18 : decode cX11_cut 18 = .ok (.invokevirtual 95, 3) := by decide +kernel
theorem dX11_cut_21 : decode cX11_cut 21 = .ok (.aload_n 0, 1) := by decide +kernel
theorem dX11_cut_22 : decode cX11_cut 22 = .ok (.getfield 33, 3) := by decide +kernel
theorem dX11_cut_25 : decode cX11_cut 25 = .ok (.iload_n 1, 1) := by decide +kernel
theorem dX11_cut_26 : decode cX11_cut 26 = .ok (.aload_n 0, 1) := by decide +kernel
theorem dX11_cut_27 : decode cX11_cut 27 = .ok (.getfield 10, 3) := by decide +kernel
theorem dX11_cut_30 : decode cX11_cut 30 = .ok (.getfield 163, 3) := by decide +kernel
theorem dX11_cut_33 : decode cX11_cut 33 = .ok (.invokevirtual 243, 3) := by decide +kernel
theorem dX11_cut_36 : decode cX11_cut 36 = .ok (.aload_n 0, 1) := by decide +kernel
theorem dX11_cut_37 : decode cX11_cut 37 = .ok (.getfield 10, 3) := by decide +kernel
theorem dX11_cut_40 : decode cX11_cut 40 = .ok (.getfield 163, 3) := by decide +kernel
theorem dX11_cut_43 : decode cX11_cut 43 = .ok (.getfield 166, 3) := by decide +kernel
theorem dX11_cut_46 : decode cX11_cut 46 = .ok (.ireturn, 1) := by decide +kernel
theorem dX11_many_0 : decode cX11_many 0 = .ok (.iload_n 1, 1) := by decide +kernel
theorem dX11_many_1 : decode cX11_many 1 = .ok (.ifCond .lt 19, 3) := by decide +kernel
theorem dX11_many_4 : decode cX11_many 4 = .ok (.iload_n 1, 1) := by decide +kernel
theorem dX11_many_5 : decode cX11_many 5 = .ok (.bipush 12, 2) := by decide +kernel
theorem dX11_many_7 : decode cX11_many 7 = .ok (.if_icmp .gt 13, 3) := by decide +kernel
theorem dX11_many_10 : decode cX11_many 10 = .ok (.iload_n 2, 1) := by decide +kernel
theorem dX11_many_11 : decode cX11_many 11 = .ok (.ifCond .lt 9, 3) := by decide +kernel
theorem dX11_many_14 : decode cX11_many 14 = .ok (.iload_n 2, 1) := by decide +kernel
theorem dX11_many_15 : decode cX11_many 15 = .ok (.bipush 12, 2) := by decide +kernel
theorem dX11_many_17 : decode cX11_many 17 = .ok (.if_icmp .le 10, 3) := by decide +kernel
theorem dX11_many_20 : decode cX11_many 20 = .ok (.aload_n 0, 1) := by decide +kernel
theorem dX11_many_21 : decode cX11_many 21 = .ok (.iconst 1, 1) := by decide +kernel
theorem dX11_many_22 : decode cX11_many 22 = .ok (.invokevirtual 105, 3) := by decide +kernel
theorem dX11_many_25 : decode cX11_many 25 = .ok (.i2l, 1) := by decide +kernel
theorem dX11_many_26 : decode cX11_many 26 = .ok (.lreturn, 1) := by decide +kernel
theorem dX11_many_27 : decode cX11_many 27 = .ok (.aload_n 0, 1) := by decide +kernel
theorem dX11_many_28 : decode cX11_many 28 = .ok (.iconst 0, 1) := by decide +kernel
theorem dX11_many_29 : decode cX11_many 29 = .ok (.putfield 83, 3) := by decide +kernel
theorem dX11_many_32 : decode cX11_many 32 = .ok (.iload_n 2, 1) := by decide +kernel
theorem dX11_many_33 : decode cX11_many 33 = .ok (.ifCond .ne 14, 3) := by decide +kernel
theorem dX11_many_36 : decode cX11_many 36 = .ok (.aload_n 0, 1) := by decide +kernel
theorem dX11_many_37 : decode cX11_many 37 = .ok (.getfield 79, 3) := by decide +kernel
theorem dX11_many_40 : decode cX11_many 40 = .ok (.iload_n 1, 1) := by decide +kernel
theorem dX11_many_41 : decode cX11_many 41 = .ok (.invokevirtual 247, 3) := by decide +kernel
theorem dX11_many_44 : decode cX11_many 44 = .ok (.goto 12, 3) := by decide +kernel
theorem dX11_many_47 : decode cX11_many 47 = .ok (.aload_n 0, 1) := by decide +kernel
theorem dX11_many_48 : decode cX11_many 48 = .ok (.getfield 79, 3) := by decide +kernel
theorem dX11_many_51 : decode cX11_many 51 = .ok (.iload_n 1, 1) := by decide +kernel
theorem dX11_many_52 : decode cX11_many 52 = .ok (.iload_n 2, 1) := by decide +kernel
theorem dX11_many_53 : decode cX11_many 53 = .ok (.invokevirtual 251, 3) := by decide +kernel
theorem dX11_many_56 : decode cX11_many 56 = .ok (.lreturn, 1) := by decide +kernel
theorem dX11_rank_0 : decode cX11_rank 0 = .ok (.aload_n 0, 1) := by decide +kernel
theorem dX11_rank_1 : decode cX11_rank 1 = .ok (.iconst 0, 1) := by decide +kernel
theorem dX11_rank_2 : decode cX11_rank 2 = .ok (.putfield 83, 3) := by decide +kernel
theorem dX11_rank_5 : decode cX11_rank 5 = .ok (.aload_n 0, 1) := by decide +kernel
theorem dX11_rank_6 : decode cX11_rank 6 = .ok (.getfield 79, 3) := by decide +kernel
theorem dX11_rank_9 : decode cX11_rank 9 = .ok (.aload_n 0, 1) := by decide +kernel
theorem dX11_rank_10 : decode cX11_rank 10 = .ok (.getfield 10, 3) := by decide +kernel
theorem dX11_rank_13 : decode cX11_rank 13 = .ok (.getfield 163, 3) := by decide +kernel
theorem dX11_rank_16 : decode cX11_rank 16 = .ok (.invokevirtual 255, 3) := by decide +kernel
theorem dX11_rank_19 : decode cX11_rank 19 = .ok (.lreturn, 1) := by decide +kernel
theorem dX11_of_0 : decode cX11_of 0 = .ok (.lload_n 1, 1) := by decide +kernel
theorem dX11_of_1 : decode cX11_of 1 = .ok (.lconst 0, 1) := by decide +kernel
theorem dX11_of_2 : decode cX11_of 2 = .ok (.lcmp, 1) := by decide +kernel
theorem dX11_of_3 : decode cX11_of 3 = .ok (.ifCond .lt 22, 3) := by decide +kernel
theorem dX11_of_6 : decode cX11_of 6 = .ok (.lload_n 1, 1) := by decide +kernel
theorem dX11_of_7 : decode cX11_of 7 = .ok (.aload_n 0, 1) := by decide +kernel
theorem dX11_of_8 : decode cX11_of 8 = .ok (.getfield 79, 3) := by decide +kernel
theorem dX11_of_11 : decode cX11_of 11 = .ok (.aload_n 0, 1) := by decide +kernel
theorem dX11_of_12 : decode cX11_of 12 = .ok (.getfield 10, 3) := by decide +kernel
theorem dX11_of_15 : decode cX11_of 15 = .ok (.getfield 147, 3) := by decide +kernel
theorem dX11_of_18 : decode cX11_of 18 = .ok (.invokevirtual 247, 3) := by decide +kernel
theorem dX11_of_21 : decode cX11_of 21 = .ok (.lcmp, 1) := by decide +kernel
theorem dX11_of_22 : decode cX11_of 22 = .ok (.ifCond .lt 9, 3) := by decide +kernel
theorem dX11_of_25 : decode cX11_of 25 = .ok (.aload_n 0, 1) := by decide +kernel
theorem dX11_of_26 : decode cX11_of 26 = .ok (.iconst 1, 1) := by decide +kernel
theorem dX11_of_27 : decode cX11_of 27 = .ok (.invokevirtual 91, 3) := by decide +kernel
theorem dX11_of_30 : decode cX11_of 30 = .ok (.ireturn, 1) := by decide +kernel
theorem dX11_of_31 : decode cX11_of 31 = .ok (.aload_n 0, 1) := by decide +kernel
theorem dX11_of_32 : decode cX11_of 32 = .ok (.invokevirtual 95, 3) := by decide +kernel
theorem dX11_of_35 : decode cX11_of 35 = .ok (.aload_n 0, 1) := by decide +kernel
theorem dX11_of_36 : decode cX11_of 36 = .ok (.getfield 79, 3) := by decide +kernel
theorem dX11_of_39 : decode cX11_of 39 = .ok (.lload_n 1, 1) := by decide +kernel
theorem dX11_of_40 : decode cX11_of 40 = .ok (.aload_n 0, 1) := by decide +kernel
theorem dX11_of_41 : decode cX11_of 41 = .ok (.getfield 10, 3) := by decide +kernel
theorem dX11_of_44 : decode cX11_of 44 = .ok (.getfield 163, 3) := by decide +kernel
theorem dX11_of_47 : decode cX11_of 47 = .ok (.invokevirtual 259, 3) := by decide +kernel
theorem dX11_of_50 : decode cX11_of 50 = .ok (.iconst 1, 1) := by decide +kernel
theorem dX11_of_51 : decode cX11_of 51 = .ok (.ireturn, 1) := by decide +kernel
theorem dX11_keep_0 : decode cX11_keep 0 = .ok (.iload_n 1, 1) := by decide +kernel
theorem dX11_keep_1 : decode cX11_keep 1 = .ok (.ifCond .lt 8, 3) := by decide +kernel
theorem dX11_keep_4 : decode cX11_keep 4 = .ok (.iload_n 1, 1) := by decide +kernel
theorem dX11_keep_5 : decode cX11_keep 5 = .ok (.iconst 4, 1) := by decide +kernel
theorem dX11_keep_6 : decode cX11_keep 6 = .ok (.if_icmp .lt 9, 3) := by decide +kernel
theorem dX11_keep_9 : decode cX11_keep 9 = .ok (.aload_n 0, 1) := by decide +kernel
theorem dX11_keep_10 : decode cX11_keep 10 = .ok (.iconst 1, 1) := by decide +kernel
theorem dX11_keep_11 : decode cX11_keep 11 = .ok (.invokevirtual 91, 3) := by decide +kernel
theorem dX11_keep_14 : decode cX11_keep 14 = .ok (.ireturn, 1) := by decide +kernel
theorem dX11_keep_15 : decode cX11_keep 15 = .ok (.aload_n 0, 1) := by decide +kernel
theorem dX11_keep_16 : decode cX11_keep 16 = .ok (.iconst 0, 1) := by decide +kernel
theorem dX11_keep_17 : decode cX11_keep 17 = .ok (.putfield 83, 3) := by decide +kernel
theorem dX11_keep_20 : decode cX11_keep 20 = .ok (.aload_n 0, 1) := by decide +kernel
theorem dX11_keep_21 : decode cX11_keep 21 = .ok (.getfield 39, 3) := by decide +kernel
theorem dX11_keep_24 : decode cX11_keep 24 = .ok (.iload_n 1, 1) := by decide +kernel
theorem dX11_keep_25 : decode cX11_keep 25 = .ok (.aaload, 1) := by decide +kernel
theorem dX11_keep_26 : decode cX11_keep 26 = .ok (.aload_n 0, 1) := by decide +kernel
theorem dX11_keep_27 : decode cX11_keep 27 = .ok (.getfield 10, 3) := by decide +kernel
theorem dX11_keep_30 : decode cX11_keep 30 = .ok (.getfield 163, 3) := by decide +kernel
theorem dX11_keep_33 : decode cX11_keep 33 = .ok (.invokevirtual 263, 3) := by decide +kernel
theorem dX11_keep_36 : decode cX11_keep 36 = .ok (.iconst 1, 1) := by decide +kernel
theorem dX11_keep_37 : decode cX11_keep 37 = .ok (.ireturn, 1) := by decide +kernel
theorem dX11_differ_0 : decode cX11_differ 0 = .ok (.aload_n 0, 1) := by decide +kernel
theorem dX11_differ_1 : decode cX11_differ 1 = .ok (.iload_n 1, 1) := by decide +kernel
theorem dX11_differ_2 : decode cX11_differ 2 = .ok (.invokevirtual 267, 3) := by decide +kernel
theorem dX11_differ_5 : decode cX11_differ 5 = .ok (.istore_n 2, 1) := by decide +kernel
theorem dX11_differ_6 : decode cX11_differ 6 = .ok (.iload_n 2, 1) := by decide +kernel
theorem dX11_differ_7 : decode cX11_differ 7 = .ok (.ifCond .eq 9, 3) := by decide +kernel
theorem dX11_differ_10 : decode cX11_differ 10 = .ok (.aload_n 0, 1) := by decide +kernel
theorem dX11_differ_11 : decode cX11_differ 11 = .ok (.iload_n 2, 1) := by decide +kernel
theorem dX11_differ_12 : decode cX11_differ 12 = .ok (.invokevirtual 105, 3) := by decide +kernel
theorem dX11_differ_15 : decode cX11_differ 15 = .ok (.ireturn, 1) := by decide +kernel
theorem dX11_differ_16 : decode cX11_differ 16 = .ok (.aload_n 0, 1) := by decide +kernel
theorem dX11_differ_17 : decode cX11_differ 17 = .ok (.iconst 0, 1) := by decide +kernel
theorem dX11_differ_18 : decode cX11_differ 18 = .ok (.putfield 83, 3) := by decide +kernel
theorem dX11_differ_21 : decode cX11_differ 21 = .ok (.aload_n 0, 1) := by decide +kernel
theorem dX11_differ_22 : decode cX11_differ 22 = .ok (.getfield 10, 3) := by decide +kernel
theorem dX11_differ_25 : decode cX11_differ 25 = .ok (.getfield 163, 3) := by decide +kernel
theorem dX11_differ_28 : decode cX11_differ 28 = .ok (.aload_n 0, 1) := by decide +kernel
theorem dX11_differ_29 : decode cX11_differ 29 = .ok (.getfield 39, 3) := by decide +kernel
theorem dX11_differ_32 : decode cX11_differ 32 = .ok (.iload_n 1, 1) := by decide +kernel
theorem dX11_differ_33 : decode cX11_differ 33 = .ok (.aaload, 1) := by decide +kernel
theorem dX11_differ_34 : decode cX11_differ 34 = .ok (.invokevirtual 270, 3) := by decide +kernel
theorem dX11_differ_37 : decode cX11_differ 37 = .ok (.ireturn, 1) := by decide +kernel
theorem dX11_both_0 : decode cX11_both 0 = .ok (.aload_n 0, 1) := by decide +kernel
theorem dX11_both_1 : decode cX11_both 1 = .ok (.iload_n 1, 1) := by decide +kernel
theorem dX11_both_2 : decode cX11_both 2 = .ok (.invokevirtual 267, 3) := by decide +kernel
theorem dX11_both_5 : decode cX11_both 5 = .ok (.istore_n 2, 1) := by decide +kernel
theorem dX11_both_6 : decode cX11_both 6 = .ok (.iload_n 2, 1) := by decide +kernel
theorem dX11_both_7 : decode cX11_both 7 = .ok (.ifCond .eq 9, 3) := by decide +kernel
theorem dX11_both_10 : decode cX11_both 10 = .ok (.aload_n 0, 1) := by decide +kernel
theorem dX11_both_11 : decode cX11_both 11 = .ok (.iload_n 2, 1) := by decide +kernel
theorem dX11_both_12 : decode cX11_both 12 = .ok (.invokevirtual 105, 3) := by decide +kernel
theorem dX11_both_15 : decode cX11_both 15 = .ok (.ireturn, 1) := by decide +kernel
theorem dX11_both_16 : decode cX11_both 16 = .ok (.aload_n 0, 1) := by decide +kernel
theorem dX11_both_17 : decode cX11_both 17 = .ok (.invokevirtual 95, 3) := by decide +kernel
theorem dX11_both_20 : decode cX11_both 20 = .ok (.aload_n 0, 1) := by decide +kernel
theorem dX11_both_21 : decode cX11_both 21 = .ok (.getfield 10, 3) := by decide +kernel
theorem dX11_both_24 : decode cX11_both 24 = .ok (.getfield 163, 3) := by decide +kernel
theorem dX11_both_27 : decode cX11_both 27 = .ok (.aload_n 0, 1) := by decide +kernel
theorem dX11_both_28 : decode cX11_both 28 = .ok (.getfield 39, 3) := by decide +kernel
theorem dX11_both_31 : decode cX11_both 31 = .ok (.iload_n 1, 1) := by decide +kernel
theorem dX11_both_32 : decode cX11_both 32 = .ok (.aaload, 1) := by decide +kernel
theorem dX11_both_33 : decode cX11_both 33 = .ok (.invokevirtual 274, 3) := by decide +kernel
theorem dX11_both_36 : decode cX11_both 36 = .ok (.aload_n 0, 1) := by decide +kernel
theorem dX11_both_37 : decode cX11_both 37 = .ok (.getfield 10, 3) := by decide +kernel
theorem dX11_both_40 : decode cX11_both 40 = .ok (.getfield 163, 3) := by decide +kernel
theorem dX11_both_43 : decode cX11_both 43 = .ok (.getfield 166, 3) := by decide +kernel
theorem dX11_both_46 : decode cX11_both 46 = .ok (.ireturn, 1) := by decide +kernel
theorem dX11_tell_0 : decode cX11_tell 0 = .ok (.iload_n 1, 1) := by decide +kernel
theorem dX11_tell_1 : decode cX11_tell 1 = .ok (.ifCond .lt 21, 3) := by decide +kernel
theorem dX11_tell_4 : decode cX11_tell 4 = .ok (.iload_n 1, 1) := by decide +kernel
theorem dX11_tell_5 : decode cX11_tell 5 = .ok (.bipush 12, 2) := by decide +kernel
theorem dX11_tell_7 : decode cX11_tell 7 = .ok (.if_icmp .ge 15, 3) := by decide +kernel
theorem dX11_tell_10 : decode cX11_tell 10 = .ok (.aload_n 0, 1) := by decide +kernel
theorem dX11_tell_11 : decode cX11_tell 11 = .ok (.getfield 44, 3) := by decide +kernel
theorem dX11_tell_14 : decode cX11_tell 14 = .ok (.getfield 177, 3) := by decide +kernel
theorem dX11_tell_17 : decode cX11_tell 17 = .ok (.bipush 12, 2) := by decide +kernel
theorem dX11_tell_19 : decode cX11_tell 19 = .ok (.if_icmp .lt 9, 3) := by decide +kernel
theorem dX11_tell_22 : decode cX11_tell 22 = .ok (.aload_n 0, 1) := by decide +kernel
theorem dX11_tell_23 : decode cX11_tell 23 = .ok (.iconst 1, 1) := by decide +kernel
theorem dX11_tell_24 : decode cX11_tell 24 = .ok (.invokevirtual 105, 3) := by decide +kernel
theorem dX11_tell_27 : decode cX11_tell 27 = .ok (.ireturn, 1) := by decide +kernel
theorem dX11_tell_28 : decode cX11_tell 28 = .ok (.aload_n 0, 1) := by decide +kernel
theorem dX11_tell_29 : decode cX11_tell 29 = .ok (.iconst 0, 1) := by decide +kernel
theorem dX11_tell_30 : decode cX11_tell 30 = .ok (.putfield 83, 3) := by decide +kernel
theorem dX11_tell_33 : decode cX11_tell 33 = .ok (.aload_n 0, 1) := by decide +kernel
theorem dX11_tell_34 : decode cX11_tell 34 = .ok (.getfield 44, 3) := by decide +kernel
theorem dX11_tell_37 : decode cX11_tell 37 = .ok (.getfield 169, 3) := by decide +kernel
theorem dX11_tell_40 : decode cX11_tell 40 = .ok (.aload_n 0, 1) := by decide +kernel
theorem dX11_tell_41 : decode cX11_tell 41 = .ok (.getfield 44, 3) := by decide +kernel
theorem dX11_tell_44 : decode cX11_tell 44 = .ok (.getfield 177, 3) := by decide +kernel
theorem dX11_tell_47 : decode cX11_tell 47 = .ok (.iload_n 1, 1) := by decide +kernel
theorem dX11_tell_48 : decode cX11_tell 48 = .ok (.iastore, 1) := by decide +kernel
theorem dX11_tell_49 : decode cX11_tell 49 = .ok (.aload_n 0, 1) := by decide +kernel
theorem dX11_tell_50 : decode cX11_tell 50 = .ok (.getfield 44, 3) := by decide +kernel
theorem dX11_tell_53 : decode cX11_tell 53 = .ok (.dup, 1) := by decide +kernel
theorem dX11_tell_54 : decode cX11_tell 54 = .ok (.getfield 177, 3) := by decide +kernel
theorem dX11_tell_57 : decode cX11_tell 57 = .ok (.iconst 1, 1) := by decide +kernel
theorem dX11_tell_58 : decode cX11_tell 58 = .ok (.iadd, 1) := by decide +kernel
theorem dX11_tell_59 : decode cX11_tell 59 = .ok (.putfield 177, 3) := by decide +kernel
theorem dX11_tell_62 : decode cX11_tell 62 = .ok (.aload_n 0, 1) := by decide +kernel
theorem dX11_tell_63 : decode cX11_tell 63 = .ok (.getfield 44, 3) := by decide +kernel
theorem dX11_tell_66 : decode cX11_tell 66 = .ok (.getfield 177, 3) := by decide +kernel
theorem dX11_tell_69 : decode cX11_tell 69 = .ok (.ireturn, 1) := by decide +kernel
theorem dX11_check_0 : decode cX11_check 0 = .ok (.iload_n 1, 1) := by decide +kernel
theorem dX11_check_1 : decode cX11_check 1 = .ok (.invokestatic 184, 3) := by decide +kernel
theorem dX11_check_4 : decode cX11_check 4 = .ok (.ifCond .ne 9, 3) := by decide +kernel
theorem dX11_check_7 : decode cX11_check 7 = .ok (.aload_n 0, 1) := by decide +kernel
theorem dX11_check_8 : decode cX11_check 8 = .ok (.iconst 1, 1) := by decide +kernel
theorem dX11_check_9 : decode cX11_check 9 = .ok (.invokevirtual 105, 3) := by decide +kernel
theorem dX11_check_12 : decode cX11_check 12 = .ok (.ireturn, 1) := by decide +kernel
theorem dX11_check_13 : decode cX11_check 13 = .ok (.aload_n 0, 1) := by decide +kernel
theorem dX11_check_14 : decode cX11_check 14 = .ok (.iconst 0, 1) := by decide +kernel
theorem dX11_check_15 : decode cX11_check 15 = .ok (.putfield 83, 3) := by decide +kernel
theorem dX11_check_18 : decode cX11_check 18 = .ok (.aload_n 0, 1) := by decide +kernel
theorem dX11_check_19 : decode cX11_check 19 = .ok (.getfield 44, 3) := by decide +kernel
theorem dX11_check_22 : decode cX11_check 22 = .ok (.getfield 177, 3) := by decide +kernel
theorem dX11_check_25 : decode cX11_check 25 = .ok (.istore 4, 2) := by decide +kernel
theorem dX11_check_27 : decode cX11_check 27 = .ok (.aload_n 0, 1) := by decide +kernel
theorem dX11_check_28 : decode cX11_check 28 = .ok (.getfield 44, 3) := by decide +kernel
theorem dX11_check_31 : decode cX11_check 31 = .ok (.invokevirtual 172, 3) := by decide +kernel
theorem dX11_check_34 : decode cX11_check 34 = .ok (.iload 4, 2) := by decide +kernel
theorem dX11_check_36 : decode cX11_check 36 = .ok (.aload_n 0, 1) := by decide +kernel
theorem dX11_check_37 : decode cX11_check 37 = .ok (.getfield 10, 3) := by decide +kernel
theorem dX11_check_40 : decode cX11_check 40 = .ok (.getfield 147, 3) := by decide +kernel
theorem dX11_check_43 : decode cX11_check 43 = .ok (.if_icmp .ne 18, 3) := by decide +kernel
theorem dX11_check_46 : decode cX11_check 46 = .ok (.aload_n 0, 1) := by decide +kernel
theorem dX11_check_47 : decode cX11_check 47 = .ok (.getfield 10, 3) := by decide +kernel
theorem dX11_check_50 : decode cX11_check 50 = .ok (.iload_n 1, 1) := by decide +kernel
theorem dX11_check_51 : decode cX11_check 51 = .ok (.aload_n 0, 1) := by decide +kernel
theorem dX11_check_52 : decode cX11_check 52 = .ok (.getfield 44, 3) := by decide +kernel
theorem dX11_check_55 : decode cX11_check 55 = .ok (.invokestatic 187, 3) := by decide +kernel
theorem dX11_check_58 : decode cX11_check 58 = .ok (.goto 4, 3) := by decide +kernel
theorem dX11_check_61 : decode cX11_check 61 = .ok (.lconst 0, 1) := by decide +kernel
theorem dX11_check_62 : decode cX11_check 62 = .ok (.lstore 5, 2) := by decide +kernel
theorem dX11_check_64 : decode cX11_check 64 = .ok (.aload_n 0, 1) := by decide +kernel
theorem dX11_check_65 : decode cX11_check 65 = .ok (.getfield 44, 3) := by decide +kernel
theorem dX11_check_68 : decode cX11_check 68 = .ok (.iconst 0, 1) := by decide +kernel
theorem dX11_check_69 : decode cX11_check 69 = .ok (.putfield 177, 3) := by decide +kernel
theorem dX11_check_72 : decode cX11_check 72 = .ok (.iload 4, 2) := by decide +kernel
theorem dX11_check_74 : decode cX11_check 74 = .ok (.aload_n 0, 1) := by decide +kernel
theorem dX11_check_75 : decode cX11_check 75 = .ok (.getfield 10, 3) := by decide +kernel
theorem dX11_check_78 : decode cX11_check 78 = .ok (.getfield 147, 3) := by decide +kernel
theorem dX11_check_81 : decode cX11_check 81 = .ok (.if_icmp .eq 5, 3) := by decide +kernel
theorem dX11_check_84 : decode cX11_check 84 = .ok (.iconst 0, 1) := by decide +kernel
theorem dX11_check_85 : decode cX11_check 85 = .ok (.ireturn, 1) := by decide +kernel
theorem dX11_check_86 : decode cX11_check 86 = .ok (.lload 5, 2) := by decide +kernel
theorem dX11_check_88 : decode cX11_check 88 = .ok (.lload_n 2, 1) := by decide +kernel
theorem dX11_check_89 : decode cX11_check 89 = .ok (.lcmp, 1) := by decide +kernel
theorem dX11_check_90 : decode cX11_check 90 = .ok (.ifCond .ne 7, 3) := by decide +kernel
theorem dX11_check_93 : decode cX11_check 93 = .ok (.iconst 2, 1) := by decide +kernel
theorem dX11_check_94 : decode cX11_check 94 = .ok (.goto 4, 3) := by decide +kernel
theorem dX11_check_97 : decode cX11_check 97 = .ok (.iconst 1, 1) := by decide +kernel
theorem dX11_check_98 : decode cX11_check 98 = .ok (.ireturn, 1) := by decide +kernel
theorem dX11_load_0 : decode cX11_load 0 = .ok (.aload_n 0, 1) := by decide +kernel
theorem dX11_load_1 : decode cX11_load 1 = .ok (.getfield 44, 3) := by decide +kernel
theorem dX11_load_4 : decode cX11_load 4 = .ok (.getfield 177, 3) := by decide +kernel
theorem dX11_load_7 : decode cX11_load 7 = .ok (.aload_n 0, 1) := by decide +kernel
theorem dX11_load_8 : decode cX11_load 8 = .ok (.getfield 10, 3) := by decide +kernel
theorem dX11_load_11 : decode cX11_load 11 = .ok (.getfield 147, 3) := by decide +kernel
theorem dX11_load_14 : decode cX11_load 14 = .ok (.if_icmp .eq 9, 3) := by decide +kernel
theorem dX11_load_17 : decode cX11_load 17 = .ok (.aload_n 0, 1) := by decide +kernel
theorem dX11_load_18 : decode cX11_load 18 = .ok (.iconst 1, 1) := by decide +kernel
theorem dX11_load_19 : decode cX11_load 19 = .ok (.invokevirtual 105, 3) := by decide +kernel
theorem dX11_load_22 : decode cX11_load 22 = .ok (.ireturn, 1) := by decide +kernel
theorem dX11_load_23 : decode cX11_load 23 = .ok (.aload_n 0, 1) := by decide +kernel
theorem dX11_load_24 : decode cX11_load 24 = .ok (.invokevirtual 95, 3) := by decide +kernel
theorem dX11_load_27 : decode cX11_load 27 = .ok (.aload_n 0, 1) := by decide +kernel
theorem dX11_load_28 : decode cX11_load 28 = .ok (.getfield 10, 3) := by decide +kernel
theorem dX11_load_31 : decode cX11_load 31 = .ok (.getfield 163, 3) := by decide +kernel
theorem dX11_load_34 : decode cX11_load 34 = .ok (.aload_n 0, 1) := by decide +kernel
theorem dX11_load_35 : decode cX11_load 35 = .ok (.getfield 44, 3) := by decide +kernel
theorem dX11_load_38 : decode cX11_load 38 = .ok (.invokevirtual 263, 3) := by decide +kernel
theorem dX11_load_41 : decode cX11_load 41 = .ok (.aload_n 0, 1) := by decide +kernel
theorem dX11_load_42 : decode cX11_load 42 = .ok (.getfield 10, 3) := by decide +kernel
theorem dX11_load_45 : decode cX11_load 45 = .ok (.getfield 163, 3) := by decide +kernel
theorem dX11_load_48 : decode cX11_load 48 = .ok (.invokevirtual 172, 3) := by decide +kernel
theorem dX11_load_51 : decode cX11_load 51 = .ok (.aload_n 0, 1) := by decide +kernel
theorem dX11_load_52 : decode cX11_load 52 = .ok (.getfield 44, 3) := by decide +kernel
theorem dX11_load_55 : decode cX11_load 55 = .ok (.iconst 0, 1) := by decide +kernel
theorem dX11_load_56 : decode cX11_load 56 = .ok (.putfield 177, 3) := by decide +kernel
theorem dX11_load_59 : decode cX11_load 59 = .ok (.aload_n 0, 1) := by decide +kernel
theorem dX11_load_60 : decode cX11_load 60 = .ok (.getfield 10, 3) := by decide +kernel
theorem dX11_load_63 : decode cX11_load 63 = .ok (.getfield 163, 3) := by decide +kernel
theorem dX11_load_66 : decode cX11_load 66 = .ok (.getfield 166, 3) := by decide +kernel
theorem dX11_load_69 : decode cX11_load 69 = .ok (.ireturn, 1) := by decide +kernel
theorem dX11_undo_0 : decode cX11_undo 0 = .ok (.aload_n 0, 1) := by decide +kernel
theorem dX11_undo_1 : decode cX11_undo 1 = .ok (.getfield 19, 3) := by decide +kernel
theorem dX11_undo_4 : decode cX11_undo 4 = .ok (.getfield 175, 3) := by decide +kernel
theorem dX11_undo_7 : decode cX11_undo 7 = .ok (.ifCond .ne 9, 3) := by decide +kernel
theorem dX11_undo_10 : decode cX11_undo 10 = .ok (.aload_n 0, 1) := by decide +kernel
theorem dX11_undo_11 : decode cX11_undo 11 = .ok (.iconst 2, 1) := by decide +kernel
theorem dX11_undo_12 : decode cX11_undo 12 = .ok (.invokevirtual 105, 3) := by decide +kernel
theorem dX11_undo_15 : decode cX11_undo 15 = .ok (.ireturn, 1) := by decide +kernel
theorem dX11_undo_16 : decode cX11_undo 16 = .ok (.aload_n 0, 1) := by decide +kernel
theorem dX11_undo_17 : decode cX11_undo 17 = .ok (.iconst 0, 1) := by decide +kernel
theorem dX11_undo_18 : decode cX11_undo 18 = .ok (.putfield 83, 3) := by decide +kernel
theorem dX11_undo_21 : decode cX11_undo 21 = .ok (.aload_n 0, 1) := by decide +kernel
theorem dX11_undo_22 : decode cX11_undo 22 = .ok (.getfield 19, 3) := by decide +kernel
theorem dX11_undo_25 : decode cX11_undo 25 = .ok (.aload_n 0, 1) := by decide +kernel
theorem dX11_undo_26 : decode cX11_undo 26 = .ok (.getfield 10, 3) := by decide +kernel
theorem dX11_undo_29 : decode cX11_undo 29 = .ok (.invokevirtual 277, 3) := by decide +kernel
theorem dX11_undo_32 : decode cX11_undo 32 = .ok (.aload_n 0, 1) := by decide +kernel
theorem dX11_undo_33 : decode cX11_undo 33 = .ok (.getfield 33, 3) := by decide +kernel
theorem dX11_undo_36 : decode cX11_undo 36 = .ok (.invokevirtual 98, 3) := by decide +kernel
theorem dX11_undo_39 : decode cX11_undo 39 = .ok (.aload_n 0, 1) := by decide +kernel
theorem dX11_undo_40 : decode cX11_undo 40 = .ok (.getfield 19, 3) := by decide +kernel
theorem dX11_undo_43 : decode cX11_undo 43 = .ok (.getfield 175, 3) := by decide +kernel
theorem dX11_undo_46 : decode cX11_undo 46 = .ok (.ireturn, 1) := by decide +kernel
theorem dX11_fault_0 : decode cX11_fault 0 = .ok (.aload_n 0, 1) := by decide +kernel
theorem dX11_fault_1 : decode cX11_fault 1 = .ok (.getfield 83, 3) := by decide +kernel
theorem dX11_fault_4 : decode cX11_fault 4 = .ok (.ireturn, 1) := by decide +kernel
theorem dX11_refuse_0 : decode cX11_refuse 0 = .ok (.aload_n 0, 1) := by decide +kernel
theorem dX11_refuse_1 : decode cX11_refuse 1 = .ok (.iload_n 1, 1) := by decide +kernel
theorem dX11_refuse_2 : decode cX11_refuse 2 = .ok (.putfield 83, 3) := by decide +kernel
theorem dX11_refuse_5 : decode cX11_refuse 5 = .ok (.iconst (-1), 1) := by decide +kernel
theorem dX11_refuse_6 : decode cX11_refuse 6 = .ok (.ireturn, 1) := by decide +kernel
theorem dX11_deny_0 : decode cX11_deny 0 = .ok (.aload_n 0, 1) := by decide +kernel
theorem dX11_deny_1 : decode cX11_deny 1 = .ok (.iload_n 1, 1) := by decide +kernel
theorem dX11_deny_2 : decode cX11_deny 2 = .ok (.putfield 83, 3) := by decide +kernel
theorem dX11_deny_5 : decode cX11_deny 5 = .ok (.iconst 0, 1) := by decide +kernel
theorem dX11_deny_6 : decode cX11_deny 6 = .ok (.ireturn, 1) := by decide +kernel
theorem dX11_change_0 : decode cX11_change 0 = .ok (.aload_n 0, 1) := by decide +kernel
theorem dX11_change_1 : decode cX11_change 1 = .ok (.iconst 0, 1) := by decide +kernel
theorem dX11_change_2 : decode cX11_change 2 = .ok (.putfield 83, 3) := by decide +kernel
theorem dX11_change_5 : decode cX11_change 5 = .ok (.aload_n 0, 1) := by decide +kernel
theorem dX11_change_6 : decode cX11_change 6 = .ok (.getfield 19, 3) := by decide +kernel
theorem dX11_change_9 : decode cX11_change 9 = .ok (.aload_n 0, 1) := by decide +kernel
theorem dX11_change_10 : decode cX11_change 10 = .ok (.getfield 10, 3) := by decide +kernel
theorem dX11_change_13 : decode cX11_change 13 = .ok (.invokevirtual 280, 3) := by decide +kernel
theorem dX11_change_16 : decode cX11_change 16 = .ok (.return_, 1) := by decide +kernel
theorem dX11_isThing_0 : decode cX11_isThing 0 = .ok (.iload_n 1, 1) := by decide +kernel
theorem dX11_isThing_1 : decode cX11_isThing 1 = .ok (.ifCond .lt 18, 3) := by decide +kernel
theorem dX11_isThing_4 : decode cX11_isThing 4 = .ok (.iload_n 1, 1) := by decide +kernel
theorem dX11_isThing_5 : decode cX11_isThing 5 = .ok (.aload_n 0, 1) := by decide +kernel
theorem dX11_isThing_6 : decode cX11_isThing 6 = .ok (.getfield 10, 3) := by decide +kernel
theorem dX11_isThing_9 : decode cX11_isThing 9 = .ok (.getfield 147, 3) := by decide +kernel
theorem dX11_isThing_12 : decode cX11_isThing 12 = .ok (.if_icmp .ge 7, 3) := by decide +kernel
theorem dX11_isThing_15 : decode cX11_isThing 15 = .ok (.iconst 1, 1) := by decide +kernel
theorem dX11_isThing_16 : decode cX11_isThing 16 = .ok (.goto 4, 3) := by decide +kernel
theorem dX11_isThing_19 : decode cX11_isThing 19 = .ok (.iconst 0, 1) := by decide +kernel
theorem dX11_isThing_20 : decode cX11_isThing 20 = .ok (.ireturn, 1) := by decide +kernel
theorem dX11_isCouple_0 : decode cX11_isCouple 0 = .ok (.aload_n 0, 1) := by decide +kernel
theorem dX11_isCouple_1 : decode cX11_isCouple 1 = .ok (.iload_n 1, 1) := by decide +kernel
theorem dX11_isCouple_2 : decode cX11_isCouple 2 = .ok (.invokevirtual 131, 3) := by decide +kernel
theorem dX11_isCouple_5 : decode cX11_isCouple 5 = .ok (.ifCond .eq 20, 3) := by decide +kernel
theorem dX11_isCouple_8 : decode cX11_isCouple 8 = .ok (.aload_n 0, 1) := by decide +kernel
theorem dX11_isCouple_9 : decode cX11_isCouple 9 = .ok (.iload_n 2, 1) := by decide +kernel
theorem dX11_isCouple_10 : decode cX11_isCouple 10 = .ok (.invokevirtual 131, 3) := by decide +kernel
theorem dX11_isCouple_13 : decode cX11_isCouple 13 = .ok (.ifCond .eq 12, 3) := by decide +kernel
theorem dX11_isCouple_16 : decode cX11_isCouple 16 = .ok (.iload_n 1, 1) := by decide +kernel
theorem dX11_isCouple_17 : decode cX11_isCouple 17 = .ok (.iload_n 2, 1) := by decide +kernel
theorem dX11_isCouple_18 : decode cX11_isCouple 18 = .ok (.if_icmp .eq 7, 3) := by decide +kernel
theorem dX11_isCouple_21 : decode cX11_isCouple 21 = .ok (.iconst 1, 1) := by decide +kernel
theorem dX11_isCouple_22 : decode cX11_isCouple 22 = .ok (.goto 4, 3) := by decide +kernel
theorem dX11_isCouple_25 : decode cX11_isCouple 25 = .ok (.iconst 0, 1) := by decide +kernel
theorem dX11_isCouple_26 : decode cX11_isCouple 26 = .ok (.ireturn, 1) := by decide +kernel
theorem dX11_isGoal_0 : decode cX11_isGoal 0 = .ok (.iload_n 0, 1) := by decide +kernel
theorem dX11_isGoal_1 : decode cX11_isGoal 1 = .ok (.ifCond .lt 12, 3) := by decide +kernel
theorem dX11_isGoal_4 : decode cX11_isGoal 4 = .ok (.iload_n 0, 1) := by decide +kernel
theorem dX11_isGoal_5 : decode cX11_isGoal 5 = .ok (.iconst 3, 1) := by decide +kernel
theorem dX11_isGoal_6 : decode cX11_isGoal 6 = .ok (.if_icmp .gt 7, 3) := by decide +kernel
theorem dX11_isGoal_9 : decode cX11_isGoal 9 = .ok (.iconst 1, 1) := by decide +kernel
theorem dX11_isGoal_10 : decode cX11_isGoal 10 = .ok (.goto 4, 3) := by decide +kernel
theorem dX11_isGoal_13 : decode cX11_isGoal 13 = .ok (.iconst 0, 1) := by decide +kernel
theorem dX11_isGoal_14 : decode cX11_isGoal 14 = .ok (.ireturn, 1) := by decide +kernel
theorem dX11_keepFault_0 : decode cX11_keepFault 0 = .ok (.iload_n 1, 1) := by decide +kernel
theorem dX11_keepFault_1 : decode cX11_keepFault 1 = .ok (.ifCond .lt 8, 3) := by decide +kernel
theorem dX11_keepFault_4 : decode cX11_keepFault 4 = .ok (.iload_n 1, 1) := by decide +kernel
theorem dX11_keepFault_5 : decode cX11_keepFault 5 = .ok (.iconst 4, 1) := by decide +kernel
theorem dX11_keepFault_6 : decode cX11_keepFault 6 = .ok (.if_icmp .lt 5, 3) := by decide +kernel
theorem dX11_keepFault_9 : decode cX11_keepFault 9 = .ok (.iconst 1, 1) := by decide +kernel
theorem dX11_keepFault_10 : decode cX11_keepFault 10 = .ok (.ireturn, 1) := by decide +kernel
theorem dX11_keepFault_11 : decode cX11_keepFault 11 = .ok (.aload_n 0, 1) := by decide +kernel
theorem dX11_keepFault_12 : decode cX11_keepFault 12 = .ok (.getfield 39, 3) := by decide +kernel
theorem dX11_keepFault_15 : decode cX11_keepFault 15 = .ok (.iload_n 1, 1) := by decide +kernel
theorem dX11_keepFault_16 : decode cX11_keepFault 16 = .ok (.aaload, 1) := by decide +kernel
theorem dX11_keepFault_17 : decode cX11_keepFault 17 = .ok (.getfield 177, 3) := by decide +kernel
theorem dX11_keepFault_20 : decode cX11_keepFault 20 = .ok (.aload_n 0, 1) := by decide +kernel
theorem dX11_keepFault_21 : decode cX11_keepFault 21 = .ok (.getfield 10, 3) := by decide +kernel
theorem dX11_keepFault_24 : decode cX11_keepFault 24 = .ok (.getfield 147, 3) := by decide +kernel
theorem dX11_keepFault_27 : decode cX11_keepFault 27 = .ok (.if_icmp .ne 7, 3) := by decide +kernel
theorem dX11_keepFault_30 : decode cX11_keepFault 30 = .ok (.iconst 0, 1) := by decide +kernel
theorem dX11_keepFault_31 : decode cX11_keepFault 31 = .ok (.goto 4, 3) := by decide +kernel
theorem dX11_keepFault_34 : decode cX11_keepFault 34 = .ok (.iconst 2, 1) := by decide +kernel
theorem dX11_keepFault_35 : decode cX11_keepFault 35 = .ok (.ireturn, 1) := by decide +kernel
theorem dX12_init_0 : decode cX12_init 0 = .ok (.aload_n 0, 1) := by decide +kernel
theorem dX12_init_1 : decode cX12_init 1 = .ok (.invokespecial 1, 3) := by decide +kernel
theorem dX12_init_4 : decode cX12_init 4 = .ok (.aload_n 0, 1) := by decide +kernel
theorem dX12_init_5 : decode cX12_init 5 = .ok (.bipush 21, 2) := by decide +kernel
theorem dX12_init_7 : decode cX12_init 7 = .ok (.newarray .int, 2) := by decide +kernel
theorem dX12_init_9 : decode cX12_init 9 = .ok (.putfield 9, 3) := by decide +kernel
theorem dX12_init_12 : decode cX12_init 12 = .ok (.aload_n 0, 1) := by decide +kernel
theorem dX12_init_13 : decode cX12_init 13 = .ok (.sipush 1008, 3) := by decide +kernel
theorem dX12_init_16 : decode cX12_init 16 = .ok (.newarray .int, 2) := by decide +kernel
theorem dX12_init_18 : decode cX12_init 18 = .ok (.putfield 13, 3) := by decide +kernel
theorem dX12_init_21 : decode cX12_init 21 = .ok (.aload_n 0, 1) := by decide +kernel
theorem dX12_init_22 : decode cX12_init 22 = .ok (.sipush 3024, 3) := by decide +kernel
theorem dX12_init_25 : decode cX12_init 25 = .ok (.newarray .int, 2) := by decide +kernel
theorem dX12_init_27 : decode cX12_init 27 = .ok (.putfield 16, 3) := by decide +kernel
theorem dX12_init_30 : decode cX12_init 30 = .ok (.aload_n 0, 1) := by decide +kernel
theorem dX12_init_31 : decode cX12_init 31 = .ok (.sipush 3024, 3) := by decide +kernel
theorem dX12_init_34 : decode cX12_init 34 = .ok (.newarray .int, 2) := by decide +kernel
theorem dX12_init_36 : decode cX12_init 36 = .ok (.putfield 19, 3) := by decide +kernel
theorem dX12_init_39 : decode cX12_init 39 = .ok (.aload_n 0, 1) := by decide +kernel
theorem dX12_init_40 : decode cX12_init 40 = .ok (.sipush 3024, 3) := by decide +kernel
theorem dX12_init_43 : decode cX12_init 43 = .ok (.newarray .boolean, 2) := by decide +kernel
theorem dX12_init_45 : decode cX12_init 45 = .ok (.putfield 22, 3) := by decide +kernel
theorem dX12_init_48 : decode cX12_init 48 = .ok (.aload_n 0, 1) := by decide +kernel
theorem dX12_init_49 : decode cX12_init 49 = .ok (.sipush 252, 3) := by decide +kernel
theorem dX12_init_52 : decode cX12_init 52 = .ok (.newarray .int, 2) := by decide +kernel
theorem dX12_init_54 : decode cX12_init 54 = .ok (.putfield 26, 3) := by decide +kernel
theorem dX12_init_57 : decode cX12_init 57 = .ok (.aload_n 0, 1) := by decide +kernel
theorem dX12_init_58 : decode cX12_init 58 = .ok (.iconst (-1), 1) := by decide +kernel
theorem dX12_init_59 : decode cX12_init 59 = .ok (.putfield 29, 3) := by decide +kernel
theorem dX12_init_62 : decode cX12_init 62 = .ok (.aload_n 0, 1) := by decide +kernel
theorem dX12_init_63 : decode cX12_init 63 = .ok (.bipush 8, 2) := by decide +kernel
theorem dX12_init_65 : decode cX12_init 65 = .ok (.newarray .long, 2) := by decide +kernel
theorem dX12_init_67 : decode cX12_init 67 = .ok (.putfield 33, 3) := by decide +kernel
theorem dX12_init_70 : decode cX12_init 70 = .ok (.aload_n 0, 1) := by decide +kernel
theorem dX12_init_71 : decode cX12_init 71 = .ok (.iconst (-1), 1) := by decide +kernel
theorem dX12_init_72 : decode cX12_init 72 = .ok (.putfield 37, 3) := by decide +kernel
theorem dX12_init_75 : decode cX12_init 75 = .ok (.aload_n 0, 1) := by decide +kernel
theorem dX12_init_76 : decode cX12_init 76 = .ok (.bipush 12, 2) := by decide +kernel
theorem dX12_init_78 : decode cX12_init 78 = .ok (.newarray .int, 2) := by decide +kernel
theorem dX12_init_80 : decode cX12_init 80 = .ok (.putfield 40, 3) := by decide +kernel
theorem dX12_init_83 : decode cX12_init 83 = .ok (.aload_n 0, 1) := by decide +kernel
theorem dX12_init_84 : decode cX12_init 84 = .ok (.bipush 12, 2) := by decide +kernel
theorem dX12_init_86 : decode cX12_init 86 = .ok (.newarray .int, 2) := by decide +kernel
theorem dX12_init_88 : decode cX12_init 88 = .ok (.putfield 43, 3) := by decide +kernel
theorem dX12_init_91 : decode cX12_init 91 = .ok (.aload_n 0, 1) := by decide +kernel
theorem dX12_init_92 : decode cX12_init 92 = .ok (.bipush 12, 2) := by decide +kernel
theorem dX12_init_94 : decode cX12_init 94 = .ok (.newarray .int, 2) := by decide +kernel
theorem dX12_init_96 : decode cX12_init 96 = .ok (.putfield 46, 3) := by decide +kernel
theorem dX12_init_99 : decode cX12_init 99 = .ok (.aload_n 0, 1) := by decide +kernel
theorem dX12_init_100 : decode cX12_init 100 = .ok (.iconst 4, 1) := by decide +kernel
theorem dX12_init_101 : decode cX12_init 101 = .ok (.newarray .int, 2) := by decide +kernel
theorem dX12_init_103 : decode cX12_init 103 = .ok (.putfield 49, 3) := by decide +kernel
theorem dX12_init_106 : decode cX12_init 106 = .ok (.aload_n 0, 1) := by decide +kernel
theorem dX12_init_107 : decode cX12_init 107 = .ok (.bipush 48, 2) := by decide +kernel
theorem dX12_init_109 : decode cX12_init 109 = .ok (.newarray .int, 2) := by decide +kernel
theorem dX12_init_111 : decode cX12_init 111 = .ok (.putfield 52, 3) := by decide +kernel
theorem dX12_init_114 : decode cX12_init 114 = .ok (.aload_n 0, 1) := by decide +kernel
theorem dX12_init_115 : decode cX12_init 115 = .ok (.bipush 12, 2) := by decide +kernel
theorem dX12_init_117 : decode cX12_init 117 = .ok (.newarray .int, 2) := by decide +kernel
theorem dX12_init_119 : decode cX12_init 119 = .ok (.putfield 55, 3) := by decide +kernel
theorem dX12_init_122 : decode cX12_init 122 = .ok (.aload_n 0, 1) := by decide +kernel
theorem dX12_init_123 : decode cX12_init 123 = .ok (.bipush 12, 2) := by decide +kernel
theorem dX12_init_125 : decode cX12_init 125 = .ok (.newarray .int, 2) := by decide +kernel
theorem dX12_init_127 : decode cX12_init 127 = .ok (.putfield 58, 3) := by decide +kernel
theorem dX12_init_130 : decode cX12_init 130 = .ok (.aload_n 0, 1) := by decide +kernel
theorem dX12_init_131 : decode cX12_init 131 = .ok (.bipush 12, 2) := by decide +kernel
theorem dX12_init_133 : decode cX12_init 133 = .ok (.newarray .int, 2) := by decide +kernel
theorem dX12_init_135 : decode cX12_init 135 = .ok (.putfield 61, 3) := by decide +kernel
theorem dX12_init_138 : decode cX12_init 138 = .ok (.aload_n 0, 1) := by decide +kernel
theorem dX12_init_139 : decode cX12_init 139 = .ok (.bipush 12, 2) := by decide +kernel
theorem dX12_init_141 : decode cX12_init 141 = .ok (.newarray .int, 2) := by decide +kernel
theorem dX12_init_143 : decode cX12_init 143 = .ok (.putfield 64, 3) := by decide +kernel
theorem dX12_init_146 : decode cX12_init 146 = .ok (.aload_n 0, 1) := by decide +kernel
theorem dX12_init_147 : decode cX12_init 147 = .ok (.sipush 144, 3) := by decide +kernel
theorem dX12_init_150 : decode cX12_init 150 = .ok (.newarray .int, 2) := by decide +kernel
theorem dX12_init_152 : decode cX12_init 152 = .ok (.putfield 67, 3) := by decide +kernel
theorem dX12_init_155 : decode cX12_init 155 = .ok (.aload_n 0, 1) := by decide +kernel
theorem dX12_init_156 : decode cX12_init 156 = .ok (.bipush 12, 2) := by decide +kernel
theorem dX12_init_158 : decode cX12_init 158 = .ok (.newarray .int, 2) := by decide +kernel
theorem dX12_init_160 : decode cX12_init 160 = .ok (.putfield 70, 3) := by decide +kernel
theorem dX12_init_163 : decode cX12_init 163 = .ok (.aload_n 0, 1) := by decide +kernel
theorem dX12_init_164 : decode cX12_init 164 = .ok (.iconst 1, 1) := by decide +kernel
theorem dX12_init_165 : decode cX12_init 165 = .ok (.invokevirtual 73, 3) := by decide +kernel
theorem dX12_init_168 : decode cX12_init 168 = .ok (.return_, 1) := by decide +kernel
theorem dX12_no_0 : decode cX12_no 0 = .ok (.aload_n 0, 1) := by decide +kernel
theorem dX12_no_1 : decode cX12_no 1 = .ok (.iload_n 1, 1) := by decide +kernel
theorem dX12_no_2 : decode cX12_no 2 = .ok (.putfield 77, 3) := by decide +kernel
theorem dX12_no_5 : decode cX12_no 5 = .ok (.iconst (-1), 1) := by decide +kernel
theorem dX12_no_6 : decode cX12_no 6 = .ok (.ireturn, 1) := by decide +kernel
theorem dX12_n_0 : decode cX12_n 0 = .ok (.aload_n 0, 1) := by decide +kernel
theorem dX12_n_1 : decode cX12_n 1 = .ok (.getfield 9, 3) := by decide +kernel
theorem dX12_n_4 : decode cX12_n 4 = .ok (.iconst 0, 1) := by decide +kernel
theorem dX12_n_5 : decode cX12_n 5 = .ok (.iaload, 1) := by decide +kernel
theorem dX12_n_6 : decode cX12_n 6 = .ok (.ireturn, 1) := by decide +kernel
theorem dX12_begin_0 : decode cX12_begin 0 = .ok (.aload_n 0, 1) := by decide +kernel
theorem dX12_begin_1 : decode cX12_begin 1 = .ok (.getfield 9, 3) := by decide +kernel
theorem dX12_begin_4 : decode cX12_begin 4 = .ok (.iconst 0, 1) := by decide +kernel
theorem dX12_begin_5 : decode cX12_begin 5 = .ok (.iload_n 1, 1) := by decide +kernel
theorem dX12_begin_6 : decode cX12_begin 6 = .ok (.iastore, 1) := by decide +kernel
theorem dX12_begin_7 : decode cX12_begin 7 = .ok (.iconst 0, 1) := by decide +kernel
theorem dX12_begin_8 : decode cX12_begin 8 = .ok (.istore_n 2, 1) := by decide +kernel
theorem dX12_begin_9 : decode cX12_begin 9 = .ok (.iload_n 2, 1) := by decide +kernel
theorem dX12_begin_10 : decode cX12_begin 10 = .ok (.bipush 48, 2) := by decide +kernel
theorem dX12_begin_12 : decode cX12_begin 12 = .ok (.if_icmp .ge 16, 3) := by decide +kernel
theorem dX12_begin_15 : decode cX12_begin 15 = .ok (.aload_n 0, 1) := by decide +kernel
theorem dX12_begin_16 : decode cX12_begin 16 = .ok (.getfield 13, 3) := by decide +kernel
theorem dX12_begin_19 : decode cX12_begin 19 = .ok (.iload_n 2, 1) := by decide +kernel
theorem dX12_begin_20 : decode cX12_begin 20 = .ok (.iconst 0, 1) := by decide +kernel
theorem dX12_begin_21 : decode cX12_begin 21 = .ok (.iastore, 1) := by decide +kernel
theorem dX12_begin_22 : decode cX12_begin 22 = .ok (.iinc 2 1, 3) := by decide +kernel
theorem dX12_begin_25 : decode cX12_begin 25 = .ok (.goto (-16), 3) := by decide +kernel
theorem dX12_begin_28 : decode cX12_begin 28 = .ok (.iconst 0, 1) := by decide +kernel
theorem dX12_begin_29 : decode cX12_begin 29 = .ok (.istore_n 2, 1) := by decide +kernel
theorem dX12_begin_30 : decode cX12_begin 30 = .ok (.iload_n 2, 1) := by decide +kernel
theorem dX12_begin_31 : decode cX12_begin 31 = .ok (.sipush 144, 3) := by decide +kernel
theorem dX12_begin_34 : decode cX12_begin 34 = .ok (.if_icmp .ge 30, 3) := by decide +kernel
theorem dX12_begin_37 : decode cX12_begin 37 = .ok (.aload_n 0, 1) := by decide +kernel
theorem dX12_begin_38 : decode cX12_begin 38 = .ok (.getfield 16, 3) := by decide +kernel
theorem dX12_begin_41 : decode cX12_begin 41 = .ok (.iload_n 2, 1) := by decide +kernel
theorem dX12_begin_42 : decode cX12_begin 42 = .ok (.iconst 0, 1) := by decide +kernel
theorem dX12_begin_43 : decode cX12_begin 43 = .ok (.iastore, 1) := by decide +kernel
theorem dX12_begin_44 : decode cX12_begin 44 = .ok (.aload_n 0, 1) := by decide +kernel
theorem dX12_begin_45 : decode cX12_begin 45 = .ok (.getfield 19, 3) := by decide +kernel
theorem dX12_begin_48 : decode cX12_begin 48 = .ok (.iload_n 2, 1) := by decide +kernel
theorem dX12_begin_49 : decode cX12_begin 49 = .ok (.iconst 0, 1) := by decide +kernel
theorem dX12_begin_50 : decode cX12_begin 50 = .ok (.iastore, 1) := by decide +kernel
theorem dX12_begin_51 : decode cX12_begin 51 = .ok (.aload_n 0, 1) := by decide +kernel
theorem dX12_begin_52 : decode cX12_begin 52 = .ok (.getfield 22, 3) := by decide +kernel
theorem dX12_begin_55 : decode cX12_begin 55 = .ok (.iload_n 2, 1) := by decide +kernel
theorem dX12_begin_56 : decode cX12_begin 56 = .ok (.iconst 0, 1) := by decide +kernel
theorem dX12_begin_57 : decode cX12_begin 57 = .ok (.bastore, 1) := by decide +kernel
theorem dX12_begin_58 : decode cX12_begin 58 = .ok (.iinc 2 1, 3) := by decide +kernel
theorem dX12_begin_61 : decode cX12_begin 61 = .ok (.goto (-31), 3) := by decide +kernel
theorem dX12_begin_64 : decode cX12_begin 64 = .ok (.iconst 0, 1) := by decide +kernel
theorem dX12_begin_65 : decode cX12_begin 65 = .ok (.istore_n 2, 1) := by decide +kernel
theorem dX12_begin_66 : decode cX12_begin 66 = .ok (.iload_n 2, 1) := by decide +kernel
theorem dX12_begin_67 : decode cX12_begin 67 = .ok (.bipush 12, 2) := by decide +kernel
theorem dX12_begin_69 : decode cX12_begin 69 = .ok (.if_icmp .ge 16, 3) := by decide +kernel
theorem dX12_begin_72 : decode cX12_begin 72 = .ok (.aload_n 0, 1) := by decide +kernel
theorem dX12_begin_73 : decode cX12_begin 73 = .ok (.getfield 26, 3) := by decide +kernel
theorem dX12_begin_76 : decode cX12_begin 76 = .ok (.iload_n 2, 1) := by decide +kernel
theorem dX12_begin_77 : decode cX12_begin 77 = .ok (.iconst 0, 1) := by decide +kernel
theorem dX12_begin_78 : decode cX12_begin 78 = .ok (.iastore, 1) := by decide +kernel
theorem dX12_begin_79 : decode cX12_begin 79 = .ok (.iinc 2 1, 3) := by decide +kernel
theorem dX12_begin_82 : decode cX12_begin 82 = .ok (.goto (-16), 3) := by decide +kernel
theorem dX12_begin_85 : decode cX12_begin 85 = .ok (.aload_n 0, 1) := by decide +kernel
theorem dX12_begin_86 : decode cX12_begin 86 = .ok (.iconst (-1), 1) := by decide +kernel
theorem dX12_begin_87 : decode cX12_begin 87 = .ok (.putfield 37, 3) := by decide +kernel
theorem dX12_begin_90 : decode cX12_begin 90 = .ok (.return_, 1) := by decide +kernel
theorem dX12_copy_0 : decode cX12_copy 0 = .ok (.aload_n 0, 1) := by decide +kernel
theorem dX12_copy_1 : decode cX12_copy 1 = .ok (.getfield 9, 3) := by decide +kernel
theorem dX12_copy_4 : decode cX12_copy 4 = .ok (.iload_n 2, 1) := by decide +kernel
theorem dX12_copy_5 : decode cX12_copy 5 = .ok (.aload_n 0, 1) := by decide +kernel
theorem dX12_copy_6 : decode cX12_copy 6 = .ok (.getfield 9, 3) := by decide +kernel
theorem dX12_copy_9 : decode cX12_copy 9 = .ok (.iload_n 1, 1) := by decide +kernel
theorem dX12_copy_10 : decode cX12_copy 10 = .ok (.iaload, 1) := by decide +kernel
theorem dX12_copy_11 : decode cX12_copy 11 = .ok (.iastore, 1) := by decide +kernel
theorem dX12_copy_12 : decode cX12_copy 12 = .ok (.iconst 0, 1) := by decide +kernel
theorem dX12_copy_13 : decode cX12_copy 13 = .ok (.istore_n 3, 1) := by decide +kernel
theorem dX12_copy_14 : decode cX12_copy 14 = .ok (.iload_n 3, 1) := by decide +kernel
theorem dX12_copy_15 : decode cX12_copy 15 = .ok (.bipush 48, 2) := by decide +kernel
theorem dX12_copy_17 : decode cX12_copy 17 = .ok (.if_icmp .ge 31, 3) := by decide +kernel
theorem dX12_copy_20 : decode cX12_copy 20 = .ok (.aload_n 0, 1) := by decide +kernel
theorem dX12_copy_21 : decode cX12_copy 21 = .ok (.getfield 13, 3) := by decide +kernel
theorem dX12_copy_24 : decode cX12_copy 24 = .ok (.bipush 48, 2) := by decide +kernel
theorem dX12_copy_26 : decode cX12_copy 26 = .ok (.iload_n 2, 1) := by decide +kernel
theorem dX12_copy_27 : decode cX12_copy 27 = .ok (.imul, 1) := by decide +kernel
theorem dX12_copy_28 : decode cX12_copy 28 = .ok (.iload_n 3, 1) := by decide +kernel
theorem dX12_copy_29 : decode cX12_copy 29 = .ok (.iadd, 1) := by decide +kernel
theorem dX12_copy_30 : decode cX12_copy 30 = .ok (.aload_n 0, 1) := by decide +kernel
theorem dX12_copy_31 : decode cX12_copy 31 = .ok (.getfield 13, 3) := by decide +kernel
theorem dX12_copy_34 : decode cX12_copy 34 = .ok (.bipush 48, 2) := by decide +kernel
theorem dX12_copy_36 : decode cX12_copy 36 = .ok (.iload_n 1, 1) := by decide +kernel
theorem dX12_copy_37 : decode cX12_copy 37 = .ok (.imul, 1) := by decide +kernel
theorem dX12_copy_38 : decode cX12_copy 38 = .ok (.iload_n 3, 1) := by decide +kernel
theorem dX12_copy_39 : decode cX12_copy 39 = .ok (.iadd, 1) := by decide +kernel
theorem dX12_copy_40 : decode cX12_copy 40 = .ok (.iaload, 1) := by decide +kernel
theorem dX12_copy_41 : decode cX12_copy 41 = .ok (.iastore, 1) := by decide +kernel
theorem dX12_copy_42 : decode cX12_copy 42 = .ok (.iinc 3 1, 3) := by decide +kernel
theorem dX12_copy_45 : decode cX12_copy 45 = .ok (.goto (-31), 3) := by decide +kernel
theorem dX12_copy_48 : decode cX12_copy 48 = .ok (.iconst 0, 1) := by decide +kernel
theorem dX12_copy_49 : decode cX12_copy 49 = .ok (.istore_n 3, 1) := by decide +kernel
theorem dX12_copy_50 : decode cX12_copy 50 = .ok (.iload_n 3, 1) := by decide +kernel
theorem dX12_copy_51 : decode cX12_copy 51 = .ok (.sipush 144, 3) := by decide +kernel
theorem dX12_copy_54 : decode cX12_copy 54 = .ok (.if_icmp .ge 81, 3) := by decide +kernel
theorem dX12_copy_57 : decode cX12_copy 57 = .ok (.aload_n 0, 1) := by decide +kernel
theorem dX12_copy_58 : decode cX12_copy 58 = .ok (.getfield 16, 3) := by decide +kernel
theorem dX12_copy_61 : decode cX12_copy 61 = .ok (.sipush 144, 3) := by decide +kernel
theorem dX12_copy_64 : decode cX12_copy 64 = .ok (.iload_n 2, 1) := by decide +kernel
theorem dX12_copy_65 : decode cX12_copy 65 = .ok (.imul, 1) := by decide +kernel
theorem dX12_copy_66 : decode cX12_copy 66 = .ok (.iload_n 3, 1) := by decide +kernel
theorem dX12_copy_67 : decode cX12_copy 67 = .ok (.iadd, 1) := by decide +kernel
theorem dX12_copy_68 : decode cX12_copy 68 = .ok (.aload_n 0, 1) := by decide +kernel
theorem dX12_copy_69 : decode cX12_copy 69 = .ok (.getfield 16, 3) := by decide +kernel
theorem dX12_copy_72 : decode cX12_copy 72 = .ok (.sipush 144, 3) := by decide +kernel
theorem dX12_copy_75 : decode cX12_copy 75 = .ok (.iload_n 1, 1) := by decide +kernel
theorem dX12_copy_76 : decode cX12_copy 76 = .ok (.imul, 1) := by decide +kernel
theorem dX12_copy_77 : decode cX12_copy 77 = .ok (.iload_n 3, 1) := by decide +kernel
theorem dX12_copy_78 : decode cX12_copy 78 = .ok (.iadd, 1) := by decide +kernel
theorem dX12_copy_79 : decode cX12_copy 79 = .ok (.iaload, 1) := by decide +kernel
theorem dX12_copy_80 : decode cX12_copy 80 = .ok (.iastore, 1) := by decide +kernel
theorem dX12_copy_81 : decode cX12_copy 81 = .ok (.aload_n 0, 1) := by decide +kernel
theorem dX12_copy_82 : decode cX12_copy 82 = .ok (.getfield 19, 3) := by decide +kernel
theorem dX12_copy_85 : decode cX12_copy 85 = .ok (.sipush 144, 3) := by decide +kernel
theorem dX12_copy_88 : decode cX12_copy 88 = .ok (.iload_n 2, 1) := by decide +kernel
theorem dX12_copy_89 : decode cX12_copy 89 = .ok (.imul, 1) := by decide +kernel
theorem dX12_copy_90 : decode cX12_copy 90 = .ok (.iload_n 3, 1) := by decide +kernel
theorem dX12_copy_91 : decode cX12_copy 91 = .ok (.iadd, 1) := by decide +kernel
theorem dX12_copy_92 : decode cX12_copy 92 = .ok (.aload_n 0, 1) := by decide +kernel
theorem dX12_copy_93 : decode cX12_copy 93 = .ok (.getfield 19, 3) := by decide +kernel
theorem dX12_copy_96 : decode cX12_copy 96 = .ok (.sipush 144, 3) := by decide +kernel
theorem dX12_copy_99 : decode cX12_copy 99 = .ok (.iload_n 1, 1) := by decide +kernel
theorem dX12_copy_100 : decode cX12_copy 100 = .ok (.imul, 1) := by decide +kernel
theorem dX12_copy_101 : decode cX12_copy 101 = .ok (.iload_n 3, 1) := by decide +kernel
theorem dX12_copy_102 : decode cX12_copy 102 = .ok (.iadd, 1) := by decide +kernel
theorem dX12_copy_103 : decode cX12_copy 103 = .ok (.iaload, 1) := by decide +kernel
theorem dX12_copy_104 : decode cX12_copy 104 = .ok (.iastore, 1) := by decide +kernel
theorem dX12_copy_105 : decode cX12_copy 105 = .ok (.aload_n 0, 1) := by decide +kernel
theorem dX12_copy_106 : decode cX12_copy 106 = .ok (.getfield 22, 3) := by decide +kernel
theorem dX12_copy_109 : decode cX12_copy 109 = .ok (.sipush 144, 3) := by decide +kernel
theorem dX12_copy_112 : decode cX12_copy 112 = .ok (.iload_n 2, 1) := by decide +kernel
theorem dX12_copy_113 : decode cX12_copy 113 = .ok (.imul, 1) := by decide +kernel
theorem dX12_copy_114 : decode cX12_copy 114 = .ok (.iload_n 3, 1) := by decide +kernel
theorem dX12_copy_115 : decode cX12_copy 115 = .ok (.iadd, 1) := by decide +kernel
theorem dX12_copy_116 : decode cX12_copy 116 = .ok (.aload_n 0, 1) := by decide +kernel
theorem dX12_copy_117 : decode cX12_copy 117 = .ok (.getfield 22, 3) := by decide +kernel
theorem dX12_copy_120 : decode cX12_copy 120 = .ok (.sipush 144, 3) := by decide +kernel
theorem dX12_copy_123 : decode cX12_copy 123 = .ok (.iload_n 1, 1) := by decide +kernel
theorem dX12_copy_124 : decode cX12_copy 124 = .ok (.imul, 1) := by decide +kernel
theorem dX12_copy_125 : decode cX12_copy 125 = .ok (.iload_n 3, 1) := by decide +kernel
theorem dX12_copy_126 : decode cX12_copy 126 = .ok (.iadd, 1) := by decide +kernel
theorem dX12_copy_127 : decode cX12_copy 127 = .ok (.baload, 1) := by decide +kernel
theorem dX12_copy_128 : decode cX12_copy 128 = .ok (.bastore, 1) := by decide +kernel
theorem dX12_copy_129 : decode cX12_copy 129 = .ok (.iinc 3 1, 3) := by decide +kernel
theorem dX12_copy_132 : decode cX12_copy 132 = .ok (.goto (-82), 3) := by decide +kernel
theorem dX12_copy_135 : decode cX12_copy 135 = .ok (.iconst 0, 1) := by decide +kernel
theorem dX12_copy_136 : decode cX12_copy 136 = .ok (.istore_n 3, 1) := by decide +kernel
theorem dX12_copy_137 : decode cX12_copy 137 = .ok (.iload_n 3, 1) := by decide +kernel
theorem dX12_copy_138 : decode cX12_copy 138 = .ok (.bipush 12, 2) := by decide +kernel
theorem dX12_copy_140 : decode cX12_copy 140 = .ok (.if_icmp .ge 31, 3) := by decide +kernel
theorem dX12_copy_143 : decode cX12_copy 143 = .ok (.aload_n 0, 1) := by decide +kernel
theorem dX12_copy_144 : decode cX12_copy 144 = .ok (.getfield 26, 3) := by decide +kernel
theorem dX12_copy_147 : decode cX12_copy 147 = .ok (.bipush 12, 2) := by decide +kernel
theorem dX12_copy_149 : decode cX12_copy 149 = .ok (.iload_n 2, 1) := by decide +kernel
theorem dX12_copy_150 : decode cX12_copy 150 = .ok (.imul, 1) := by decide +kernel
theorem dX12_copy_151 : decode cX12_copy 151 = .ok (.iload_n 3, 1) := by decide +kernel
theorem dX12_copy_152 : decode cX12_copy 152 = .ok (.iadd, 1) := by decide +kernel
theorem dX12_copy_153 : decode cX12_copy 153 = .ok (.aload_n 0, 1) := by decide +kernel
theorem dX12_copy_154 : decode cX12_copy 154 = .ok (.getfield 26, 3) := by decide +kernel
theorem dX12_copy_157 : decode cX12_copy 157 = .ok (.bipush 12, 2) := by decide +kernel
theorem dX12_copy_159 : decode cX12_copy 159 = .ok (.iload_n 1, 1) := by decide +kernel
theorem dX12_copy_160 : decode cX12_copy 160 = .ok (.imul, 1) := by decide +kernel
theorem dX12_copy_161 : decode cX12_copy 161 = .ok (.iload_n 3, 1) := by decide +kernel
theorem dX12_copy_162 : decode cX12_copy 162 = .ok (.iadd, 1) := by decide +kernel
theorem dX12_copy_163 : decode cX12_copy 163 = .ok (.iaload, 1) := by decide +kernel
theorem dX12_copy_164 : decode cX12_copy 164 = .ok (.iastore, 1) := by decide +kernel
theorem dX12_copy_165 : decode cX12_copy 165 = .ok (.iinc 3 1, 3) := by decide +kernel
theorem dX12_copy_168 : decode cX12_copy 168 = .ok (.goto (-31), 3) := by decide +kernel
theorem dX12_copy_171 : decode cX12_copy 171 = .ok (.return_, 1) := by decide +kernel
theorem dX12_change_0 : decode cX12_change 0 = .ok (.aload_n 0, 1) := by decide +kernel
theorem dX12_change_1 : decode cX12_change 1 = .ok (.getfield 80, 3) := by decide +kernel
theorem dX12_change_4 : decode cX12_change 4 = .ok (.bipush 20, 2) := by decide +kernel
theorem dX12_change_6 : decode cX12_change 6 = .ok (.if_icmp .ne 19, 3) := by decide +kernel
theorem dX12_change_9 : decode cX12_change 9 = .ok (.aload_n 0, 1) := by decide +kernel
theorem dX12_change_10 : decode cX12_change 10 = .ok (.aload_n 0, 1) := by decide +kernel
theorem dX12_change_11 : decode cX12_change 11 = .ok (.getfield 83, 3) := by decide +kernel
theorem dX12_change_14 : decode cX12_change 14 = .ok (.iconst 1, 1) := by decide +kernel
theorem dX12_change_15 : decode cX12_change 15 = .ok (.iadd, 1) := by decide +kernel
theorem dX12_change_16 : decode cX12_change 16 = .ok (.bipush 20, 2) := by decide +kernel
theorem dX12_change_18 : decode cX12_change 18 = .ok (.irem, 1) := by decide +kernel
theorem dX12_change_19 : decode cX12_change 19 = .ok (.putfield 83, 3) := by decide +kernel
theorem dX12_change_22 : decode cX12_change 22 = .ok (.goto 13, 3) := by decide +kernel
theorem dX12_change_25 : decode cX12_change 25 = .ok (.aload_n 0, 1) := by decide +kernel
theorem dX12_change_26 : decode cX12_change 26 = .ok (.dup, 1) := by decide +kernel
theorem dX12_change_27 : decode cX12_change 27 = .ok (.getfield 80, 3) := by decide +kernel
theorem dX12_change_30 : decode cX12_change 30 = .ok (.iconst 1, 1) := by decide +kernel
theorem dX12_change_31 : decode cX12_change 31 = .ok (.iadd, 1) := by decide +kernel
theorem dX12_change_32 : decode cX12_change 32 = .ok (.putfield 80, 3) := by decide +kernel
theorem dX12_change_35 : decode cX12_change 35 = .ok (.aload_n 0, 1) := by decide +kernel
theorem dX12_change_36 : decode cX12_change 36 = .ok (.iconst 0, 1) := by decide +kernel
theorem dX12_change_37 : decode cX12_change 37 = .ok (.iconst 1, 1) := by decide +kernel
theorem dX12_change_38 : decode cX12_change 38 = .ok (.aload_n 0, 1) := by decide +kernel
theorem dX12_change_39 : decode cX12_change 39 = .ok (.getfield 83, 3) := by decide +kernel
theorem dX12_change_42 : decode cX12_change 42 = .ok (.aload_n 0, 1) := by decide +kernel
theorem dX12_change_43 : decode cX12_change 43 = .ok (.getfield 80, 3) := by decide +kernel
theorem dX12_change_46 : decode cX12_change 46 = .ok (.iadd, 1) := by decide +kernel
theorem dX12_change_47 : decode cX12_change 47 = .ok (.iconst 1, 1) := by decide +kernel
theorem dX12_change_48 : decode cX12_change 48 = .ok (.isub, 1) := by decide +kernel
theorem dX12_change_49 : decode cX12_change 49 = .ok (.bipush 20, 2) := by decide +kernel
theorem dX12_change_51 : decode cX12_change 51 = .ok (.irem, 1) := by decide +kernel
theorem dX12_change_52 : decode cX12_change 52 = .ok (.iadd, 1) := by decide +kernel
theorem dX12_change_53 : decode cX12_change 53 = .ok (.invokevirtual 86, 3) := by decide +kernel
theorem dX12_change_56 : decode cX12_change 56 = .ok (.return_, 1) := by decide +kernel
theorem dX12_isThing_0 : decode cX12_isThing 0 = .ok (.iload_n 1, 1) := by decide +kernel
theorem dX12_isThing_1 : decode cX12_isThing 1 = .ok (.ifCond .lt 15, 3) := by decide +kernel
theorem dX12_isThing_4 : decode cX12_isThing 4 = .ok (.iload_n 1, 1) := by decide +kernel
theorem dX12_isThing_5 : decode cX12_isThing 5 = .ok (.aload_n 0, 1) := by decide +kernel
theorem dX12_isThing_6 : decode cX12_isThing 6 = .ok (.invokevirtual 90, 3) := by decide +kernel
theorem dX12_isThing_9 : decode cX12_isThing 9 = .ok (.if_icmp .ge 7, 3) := by decide +kernel
theorem dX12_isThing_12 : decode cX12_isThing 12 = .ok (.iconst 1, 1) := by decide +kernel
theorem dX12_isThing_13 : decode cX12_isThing 13 = .ok (.goto 4, 3) := by decide +kernel
theorem dX12_isThing_16 : decode cX12_isThing 16 = .ok (.iconst 0, 1) := by decide +kernel
theorem dX12_isThing_17 : decode cX12_isThing 17 = .ok (.ireturn, 1) := by decide +kernel
theorem dX12_arePair_0 : decode cX12_arePair 0 = .ok (.aload_n 0, 1) := by decide +kernel
theorem dX12_arePair_1 : decode cX12_arePair 1 = .ok (.iload_n 1, 1) := by decide +kernel
theorem dX12_arePair_2 : decode cX12_arePair 2 = .ok (.invokevirtual 94, 3) := by decide +kernel
theorem dX12_arePair_5 : decode cX12_arePair 5 = .ok (.ifCond .eq 20, 3) := by decide +kernel
theorem dX12_arePair_8 : decode cX12_arePair 8 = .ok (.aload_n 0, 1) := by decide +kernel
theorem dX12_arePair_9 : decode cX12_arePair 9 = .ok (.iload_n 2, 1) := by decide +kernel
theorem dX12_arePair_10 : decode cX12_arePair 10 = .ok (.invokevirtual 94, 3) := by decide +kernel
theorem dX12_arePair_13 : decode cX12_arePair 13 = .ok (.ifCond .eq 12, 3) := by decide +kernel
theorem dX12_arePair_16 : decode cX12_arePair 16 = .ok (.iload_n 1, 1) := by decide +kernel
theorem dX12_arePair_17 : decode cX12_arePair 17 = .ok (.iload_n 2, 1) := by decide +kernel
theorem dX12_arePair_18 : decode cX12_arePair 18 = .ok (.if_icmp .eq 7, 3) := by decide +kernel
theorem dX12_arePair_21 : decode cX12_arePair 21 = .ok (.iconst 1, 1) := by decide +kernel
theorem dX12_arePair_22 : decode cX12_arePair 22 = .ok (.goto 4, 3) := by decide +kernel
theorem dX12_arePair_25 : decode cX12_arePair 25 = .ok (.iconst 0, 1) := by decide +kernel
theorem dX12_arePair_26 : decode cX12_arePair 26 = .ok (.ireturn, 1) := by decide +kernel
theorem dX12_things_0 : decode cX12_things 0 = .ok (.aload_n 0, 1) := by decide +kernel
theorem dX12_things_1 : decode cX12_things 1 = .ok (.iconst 0, 1) := by decide +kernel
theorem dX12_things_2 : decode cX12_things 2 = .ok (.putfield 77, 3) := by decide +kernel
theorem dX12_things_5 : decode cX12_things 5 = .ok (.iload_n 1, 1) := by decide +kernel
theorem dX12_things_6 : decode cX12_things 6 = .ok (.iconst 1, 1) := by decide +kernel
theorem dX12_things_7 : decode cX12_things 7 = .ok (.if_icmp .lt 9, 3) := by decide +kernel
theorem dX12_things_10 : decode cX12_things 10 = .ok (.iload_n 1, 1) := by decide +kernel
theorem dX12_things_11 : decode cX12_things 11 = .ok (.bipush 12, 2) := by decide +kernel
theorem dX12_things_13 : decode cX12_things 13 = .ok (.if_icmp .le 11, 3) := by decide +kernel
theorem dX12_things_16 : decode cX12_things 16 = .ok (.aload_n 0, 1) := by decide +kernel
theorem dX12_things_17 : decode cX12_things 17 = .ok (.iconst 1, 1) := by decide +kernel
theorem dX12_things_18 : decode cX12_things 18 = .ok (.invokevirtual 98, 3) := by decide +kernel
theorem dX12_things_21 : decode cX12_things 21 = .ok (.pop, 1) := by decide +kernel
theorem dX12_things_22 : decode cX12_things 22 = .ok (.iconst 0, 1) := by decide +kernel
theorem dX12_things_23 : decode cX12_things 23 = .ok (.ireturn, 1) := by decide +kernel
theorem dX12_things_24 : decode cX12_things 24 = .ok (.aload_n 0, 1) := by decide +kernel
theorem dX12_things_25 : decode cX12_things 25 = .ok (.invokevirtual 102, 3) := by decide +kernel
theorem dX12_things_28 : decode cX12_things 28 = .ok (.aload_n 0, 1) := by decide +kernel
theorem dX12_things_29 : decode cX12_things 29 = .ok (.iload_n 1, 1) := by decide +kernel
theorem dX12_things_30 : decode cX12_things 30 = .ok (.invokevirtual 73, 3) := by decide +kernel
theorem dX12_things_33 : decode cX12_things 33 = .ok (.iconst 1, 1) := by decide +kernel
theorem dX12_things_34 : decode cX12_things 34 = .ok (.ireturn, 1) := by decide +kernel
theorem dX12_setWay_0 : decode cX12_setWay 0 = .ok (.aload_n 0, 1) := by decide +kernel
theorem dX12_setWay_1 : decode cX12_setWay 1 = .ok (.getfield 16, 3) := by decide +kernel
theorem dX12_setWay_4 : decode cX12_setWay 4 = .ok (.bipush 12, 2) := by decide +kernel
theorem dX12_setWay_6 : decode cX12_setWay 6 = .ok (.iload_n 1, 1) := by decide +kernel
theorem dX12_setWay_7 : decode cX12_setWay 7 = .ok (.imul, 1) := by decide +kernel
theorem dX12_setWay_8 : decode cX12_setWay 8 = .ok (.iload_n 2, 1) := by decide +kernel
theorem dX12_setWay_9 : decode cX12_setWay 9 = .ok (.iadd, 1) := by decide +kernel
theorem dX12_setWay_10 : decode cX12_setWay 10 = .ok (.iload_n 3, 1) := by decide +kernel
theorem dX12_setWay_11 : decode cX12_setWay 11 = .ok (.iastore, 1) := by decide +kernel
theorem dX12_setWay_12 : decode cX12_setWay 12 = .ok (.aload_n 0, 1) := by decide +kernel
theorem dX12_setWay_13 : decode cX12_setWay 13 = .ok (.getfield 16, 3) := by decide +kernel
theorem dX12_setWay_16 : decode cX12_setWay 16 = .ok (.bipush 12, 2) := by decide +kernel
theorem dX12_setWay_18 : decode cX12_setWay 18 = .ok (.iload_n 2, 1) := by decide +kernel
theorem dX12_setWay_19 : decode cX12_setWay 19 = .ok (.imul, 1) := by decide +kernel
theorem dX12_setWay_20 : decode cX12_setWay 20 = .ok (.iload_n 1, 1) := by decide +kernel
theorem dX12_setWay_21 : decode cX12_setWay 21 = .ok (.iadd, 1) := by decide +kernel
theorem dX12_setWay_22 : decode cX12_setWay 22 = .ok (.iload_n 3, 1) := by decide +kernel
theorem dX12_setWay_23 : decode cX12_setWay 23 = .ok (.iastore, 1) := by decide +kernel
theorem dX12_setWay_24 : decode cX12_setWay 24 = .ok (.return_, 1) := by decide +kernel
theorem dX12_way_0 : decode cX12_way 0 = .ok (.aload_n 0, 1) := by decide +kernel
theorem dX12_way_1 : decode cX12_way 1 = .ok (.iconst 0, 1) := by decide +kernel
theorem dX12_way_2 : decode cX12_way 2 = .ok (.putfield 77, 3) := by decide +kernel
theorem dX12_way_5 : decode cX12_way 5 = .ok (.aload_n 0, 1) := by decide +kernel
theorem dX12_way_6 : decode cX12_way 6 = .ok (.iload_n 1, 1) := by decide +kernel
theorem dX12_way_7 : decode cX12_way 7 = .ok (.iload_n 2, 1) := by decide +kernel
theorem dX12_way_8 : decode cX12_way 8 = .ok (.invokevirtual 105, 3) := by decide +kernel
theorem dX12_way_11 : decode cX12_way 11 = .ok (.ifCond .eq 14, 3) := by decide +kernel
theorem dX12_way_14 : decode cX12_way 14 = .ok (.iload_n 3, 1) := by decide +kernel
theorem dX12_way_15 : decode cX12_way 15 = .ok (.ifCond .lt 10, 3) := by decide +kernel
theorem dX12_way_18 : decode cX12_way 18 = .ok (.iload_n 3, 1) := by decide +kernel
theorem dX12_way_19 : decode cX12_way 19 = .ok (.sipush 10000, 3) := by decide +kernel
theorem dX12_way_22 : decode cX12_way 22 = .ok (.if_icmp .le 9, 3) := by decide +kernel
theorem dX12_way_25 : decode cX12_way 25 = .ok (.aload_n 0, 1) := by decide +kernel
theorem dX12_way_26 : decode cX12_way 26 = .ok (.iconst 1, 1) := by decide +kernel
theorem dX12_way_27 : decode cX12_way 27 = .ok (.invokevirtual 98, 3) := by decide +kernel
theorem dX12_way_30 : decode cX12_way 30 = .ok (.ireturn, 1) := by decide +kernel
theorem dX12_way_31 : decode cX12_way 31 = .ok (.aload_n 0, 1) := by decide +kernel
theorem dX12_way_32 : decode cX12_way 32 = .ok (.invokevirtual 102, 3) := by decide +kernel
theorem dX12_way_35 : decode cX12_way 35 = .ok (.aload_n 0, 1) := by decide +kernel
theorem dX12_way_36 : decode cX12_way 36 = .ok (.getfield 16, 3) := by decide +kernel
theorem dX12_way_39 : decode cX12_way 39 = .ok (.bipush 12, 2) := by decide +kernel
theorem dX12_way_41 : decode cX12_way 41 = .ok (.iload_n 1, 1) := by decide +kernel
theorem dX12_way_42 : decode cX12_way 42 = .ok (.imul, 1) := by decide +kernel
theorem dX12_way_43 : decode cX12_way 43 = .ok (.iload_n 2, 1) := by decide +kernel
theorem dX12_way_44 : decode cX12_way 44 = .ok (.iadd, 1) := by decide +kernel
theorem dX12_way_45 : decode cX12_way 45 = .ok (.iaload, 1) := by decide +kernel
theorem dX12_way_46 : decode cX12_way 46 = .ok (.istore 4, 2) := by decide +kernel
theorem dX12_way_48 : decode cX12_way 48 = .ok (.aload_n 0, 1) := by decide +kernel
theorem dX12_way_49 : decode cX12_way 49 = .ok (.iload_n 1, 1) := by decide +kernel
theorem dX12_way_50 : decode cX12_way 50 = .ok (.iload_n 2, 1) := by decide +kernel
theorem dX12_way_51 : decode cX12_way 51 = .ok (.iload_n 3, 1) := by decide +kernel
theorem dX12_way_52 : decode cX12_way 52 = .ok (.invokevirtual 109, 3) := by decide +kernel
theorem dX12_way_55 : decode cX12_way 55 = .ok (.iload 4, 2) := by decide +kernel
theorem dX12_way_57 : decode cX12_way 57 = .ok (.ireturn, 1) := by decide +kernel
theorem dX12_sheet_0 : decode cX12_sheet 0 = .ok (.aload_n 0, 1) := by decide +kernel
theorem dX12_sheet_1 : decode cX12_sheet 1 = .ok (.iconst 0, 1) := by decide +kernel
theorem dX12_sheet_2 : decode cX12_sheet 2 = .ok (.putfield 77, 3) := by decide +kernel
theorem dX12_sheet_5 : decode cX12_sheet 5 = .ok (.iload_n 1, 1) := by decide +kernel
theorem dX12_sheet_6 : decode cX12_sheet 6 = .ok (.ifCond .lt 19, 3) := by decide +kernel
theorem dX12_sheet_9 : decode cX12_sheet 9 = .ok (.iload_n 1, 1) := by decide +kernel
theorem dX12_sheet_10 : decode cX12_sheet 10 = .ok (.iconst 4, 1) := by decide +kernel
theorem dX12_sheet_11 : decode cX12_sheet 11 = .ok (.if_icmp .gt 14, 3) := by decide +kernel
theorem dX12_sheet_14 : decode cX12_sheet 14 = .ok (.iload_n 1, 1) := by decide +kernel
theorem dX12_sheet_15 : decode cX12_sheet 15 = .ok (.iconst 4, 1) := by decide +kernel
theorem dX12_sheet_16 : decode cX12_sheet 16 = .ok (.if_icmp .ge 15, 3) := by decide +kernel
theorem dX12_sheet_19 : decode cX12_sheet 19 = .ok (.iload_n 2, 1) := by decide +kernel
theorem dX12_sheet_20 : decode cX12_sheet 20 = .ok (.bipush 8, 2) := by decide +kernel
theorem dX12_sheet_22 : decode cX12_sheet 22 = .ok (.if_icmp .le 9, 3) := by decide +kernel
theorem dX12_sheet_25 : decode cX12_sheet 25 = .ok (.aload_n 0, 1) := by decide +kernel
theorem dX12_sheet_26 : decode cX12_sheet 26 = .ok (.iconst 1, 1) := by decide +kernel
theorem dX12_sheet_27 : decode cX12_sheet 27 = .ok (.invokevirtual 98, 3) := by decide +kernel
theorem dX12_sheet_30 : decode cX12_sheet 30 = .ok (.ireturn, 1) := by decide +kernel
theorem dX12_sheet_31 : decode cX12_sheet 31 = .ok (.iload_n 1, 1) := by decide +kernel
theorem dX12_sheet_32 : decode cX12_sheet 32 = .ok (.iconst 4, 1) := by decide +kernel
theorem dX12_sheet_33 : decode cX12_sheet 33 = .ok (.if_icmp .ge 13, 3) := by decide +kernel
theorem dX12_sheet_36 : decode cX12_sheet 36 = .ok (.iload_n 2, 1) := by decide +kernel
theorem dX12_sheet_37 : decode cX12_sheet 37 = .ok (.ifCond .ge 9, 3) := by decide +kernel
theorem dX12_sheet_40 : decode cX12_sheet 40 = .ok (.aload_n 0, 1) := by decide +kernel
theorem dX12_sheet_41 : decode cX12_sheet 41 = .ok (.iconst 4, 1) := by decide +kernel
theorem dX12_sheet_42 : decode cX12_sheet 42 = .ok (.invokevirtual 98, 3) := by decide +kernel
theorem dX12_sheet_45 : decode cX12_sheet 45 = .ok (.ireturn, 1) := by decide +kernel
theorem dX12_sheet_46 : decode cX12_sheet 46 = .ok (.aload_n 0, 1) := by decide +kernel
theorem dX12_sheet_47 : decode cX12_sheet 47 = .ok (.iload_n 1, 1) := by decide +kernel
theorem dX12_sheet_48 : decode cX12_sheet 48 = .ok (.putfield 29, 3) := by decide +kernel
theorem dX12_sheet_51 : decode cX12_sheet 51 = .ok (.aload_n 0, 1) := by decide +kernel
theorem dX12_sheet_52 : decode cX12_sheet 52 = .ok (.iload_n 1, 1) := by decide +kernel
theorem dX12_sheet_53 : decode cX12_sheet 53 = .ok (.iconst 4, 1) := by decide +kernel
theorem dX12_sheet_54 : decode cX12_sheet 54 = .ok (.if_icmp .ne 7, 3) := by decide +kernel
theorem dX12_sheet_57 : decode cX12_sheet 57 = .ok (.iconst 0, 1) := by decide +kernel
theorem dX12_sheet_58 : decode cX12_sheet 58 = .ok (.goto 4, 3) := by decide +kernel
theorem dX12_sheet_61 : decode cX12_sheet 61 = .ok (.iload_n 2, 1) := by decide +kernel
theorem dX12_sheet_62 : decode cX12_sheet 62 = .ok (.putfield 113, 3) := by decide +kernel
theorem dX12_sheet_65 : decode cX12_sheet 65 = .ok (.iconst 0, 1) := by decide +kernel
theorem dX12_sheet_66 : decode cX12_sheet 66 = .ok (.istore_n 3, 1) := by decide +kernel
theorem dX12_sheet_67 : decode cX12_sheet 67 = .ok (.iload_n 3, 1) := by decide +kernel
theorem dX12_sheet_68 : decode cX12_sheet 68 = .ok (.bipush 8, 2) := by decide +kernel
theorem dX12_sheet_70 : decode cX12_sheet 70 = .ok (.if_icmp .ge 16, 3) := by decide +kernel
theorem dX12_sheet_73 : decode cX12_sheet 73 = .ok (.aload_n 0, 1) := by decide +kernel
theorem dX12_sheet_74 : decode cX12_sheet 74 = .ok (.getfield 33, 3) := by decide +kernel
theorem dX12_sheet_77 : decode cX12_sheet 77 = .ok (.iload_n 3, 1) := by decide +kernel
theorem dX12_sheet_78 : decode cX12_sheet 78 = .ok (.lconst 0, 1) := by decide +kernel
theorem dX12_sheet_79 : decode cX12_sheet 79 = .ok (.lastore, 1) := by decide +kernel
theorem dX12_sheet_80 : decode cX12_sheet 80 = .ok (.iinc 3 1, 3) := by decide +kernel
theorem dX12_sheet_83 : decode cX12_sheet 83 = .ok (.goto (-16), 3) := by decide +kernel
theorem dX12_sheet_86 : decode cX12_sheet 86 = .ok (.aload_n 0, 1) := by decide +kernel
theorem dX12_sheet_87 : decode cX12_sheet 87 = .ok (.getfield 113, 3) := by decide +kernel
theorem dX12_sheet_90 : decode cX12_sheet 90 = .ok (.ireturn, 1) := by decide +kernel
theorem dX12_entry_0 : decode cX12_entry 0 = .ok (.aload_n 0, 1) := by decide +kernel
theorem dX12_entry_1 : decode cX12_entry 1 = .ok (.iconst 0, 1) := by decide +kernel
theorem dX12_entry_2 : decode cX12_entry 2 = .ok (.putfield 77, 3) := by decide +kernel
theorem dX12_entry_5 : decode cX12_entry 5 = .ok (.aload_n 0, 1) := by decide +kernel
theorem dX12_entry_6 : decode cX12_entry 6 = .ok (.getfield 29, 3) := by decide +kernel
theorem dX12_entry_9 : decode cX12_entry 9 = .ok (.iconst (-1), 1) := by decide +kernel
theorem dX12_entry_10 : decode cX12_entry 10 = .ok (.if_icmp .eq 11, 3) := by decide +kernel
theorem dX12_entry_13 : decode cX12_entry 13 = .ok (.aload_n 0, 1) := by decide +kernel
theorem dX12_entry_14 : decode cX12_entry 14 = .ok (.getfield 29, 3) := by decide +kernel
theorem dX12_entry_17 : decode cX12_entry 17 = .ok (.iconst 4, 1) := by decide +kernel
theorem dX12_entry_18 : decode cX12_entry 18 = .ok (.if_icmp .ne 11, 3) := by decide +kernel
theorem dX12_entry_21 : decode cX12_entry 21 = .ok (.aload_n 0, 1) := by decide +kernel
theorem dX12_entry_22 : decode cX12_entry 22 = .ok (.iconst 2, 1) := by decide +kernel
theorem dX12_entry_23 : decode cX12_entry 23 = .ok (.invokevirtual 98, 3) := by decide +kernel
theorem dX12_entry_26 : decode cX12_entry 26 = .ok (.pop, 1) := by decide +kernel
theorem dX12_entry_27 : decode cX12_entry 27 = .ok (.iconst 0, 1) := by decide +kernel
theorem dX12_entry_28 : decode cX12_entry 28 = .ok (.ireturn, 1) := by decide +kernel
theorem dX12_entry_29 : decode cX12_entry 29 = .ok (.iload_n 1, 1) := by decide +kernel
theorem dX12_entry_30 : decode cX12_entry 30 = .ok (.ifCond .lt 11, 3) := by decide +kernel
theorem dX12_entry_33 : decode cX12_entry 33 = .ok (.iload_n 1, 1) := by decide +kernel
theorem dX12_entry_34 : decode cX12_entry 34 = .ok (.aload_n 0, 1) := by decide +kernel
theorem dX12_entry_35 : decode cX12_entry 35 = .ok (.getfield 113, 3) := by decide +kernel
theorem dX12_entry_38 : decode cX12_entry 38 = .ok (.if_icmp .lt 11, 3) := by decide +kernel
theorem dX12_entry_41 : decode cX12_entry 41 = .ok (.aload_n 0, 1) := by decide +kernel
theorem dX12_entry_42 : decode cX12_entry 42 = .ok (.iconst 1, 1) := by decide +kernel
theorem dX12_entry_43 : decode cX12_entry 43 = .ok (.invokevirtual 98, 3) := by decide +kernel
theorem dX12_entry_46 : decode cX12_entry 46 = .ok (.pop, 1) := by decide +kernel
theorem dX12_entry_47 : decode cX12_entry 47 = .ok (.iconst 0, 1) := by decide +kernel
theorem dX12_entry_48 : decode cX12_entry 48 = .ok (.ireturn, 1) := by decide +kernel
theorem dX12_entry_49 : decode cX12_entry 49 = .ok (.bipush 64, 2) := by decide +kernel
theorem dX12_entry_51 : decode cX12_entry 51 = .ok (.bipush 8, 2) := by decide +kernel
theorem dX12_entry_53 : decode cX12_entry 53 = .ok (.aload_n 0, 1) := by decide +kernel
theorem dX12_entry_54 : decode cX12_entry 54 = .ok (.getfield 29, 3) := by decide +kernel
theorem dX12_entry_57 : decode cX12_entry 57 = .ok (.ishl, 1) := by decide +kernel
theorem dX12_entry_58 : decode cX12_entry 58 = .ok (.isub, 1) := by decide +kernel
theorem dX12_entry_59 : decode cX12_entry 59 = .ok (.istore 4, 2) := by decide +kernel
theorem dX12_entry_61 : decode cX12_entry 61 = .ok (.aload_n 0, 1) := by decide +kernel
theorem dX12_entry_62 : decode cX12_entry 62 = .ok (.getfield 33, 3) := by decide +kernel
theorem dX12_entry_65 : decode cX12_entry 65 = .ok (.iload_n 1, 1) := by decide +kernel
theorem dX12_entry_66 : decode cX12_entry 66 = .ok (.lload_n 2, 1) := by decide +kernel
theorem dX12_entry_67 : decode cX12_entry 67 = .ok (.iload 4, 2) := by decide +kernel
theorem dX12_entry_69 : decode cX12_entry 69 = .ok (.lshl, 1) := by decide +kernel
theorem dX12_entry_70 : decode cX12_entry 70 = .ok (.iload 4, 2) := by decide +kernel
theorem dX12_entry_72 : decode cX12_entry 72 = .ok (.lshr, 1) := by decide +kernel
theorem dX12_entry_73 : decode cX12_entry 73 = .ok (.lastore, 1) := by decide +kernel
theorem dX12_entry_74 : decode cX12_entry 74 = .ok (.iconst 1, 1) := by decide +kernel
theorem dX12_entry_75 : decode cX12_entry 75 = .ok (.ireturn, 1) := by decide +kernel
theorem dX12_lay_0 : decode cX12_lay 0 = .ok (.aload_n 0, 1) := by decide +kernel
theorem dX12_lay_1 : decode cX12_lay 1 = .ok (.iconst 0, 1) := by decide +kernel
theorem dX12_lay_2 : decode cX12_lay 2 = .ok (.putfield 77, 3) := by decide +kernel
theorem dX12_lay_5 : decode cX12_lay 5 = .ok (.aload_n 0, 1) := by decide +kernel
theorem dX12_lay_6 : decode cX12_lay 6 = .ok (.iload_n 1, 1) := by decide +kernel
theorem dX12_lay_7 : decode cX12_lay 7 = .ok (.invokevirtual 94, 3) := by decide +kernel
theorem dX12_lay_10 : decode cX12_lay 10 = .ok (.istore_n 2, 1) := by decide +kernel
theorem dX12_lay_11 : decode cX12_lay 11 = .ok (.iconst 0, 1) := by decide +kernel
theorem dX12_lay_12 : decode cX12_lay 12 = .ok (.istore_n 3, 1) := by decide +kernel
theorem dX12_lay_13 : decode cX12_lay 13 = .ok (.iload_n 3, 1) := by decide +kernel
theorem dX12_lay_14 : decode cX12_lay 14 = .ok (.iconst 4, 1) := by decide +kernel
theorem dX12_lay_15 : decode cX12_lay 15 = .ok (.if_icmp .ge 53, 3) := by decide +kernel
theorem dX12_lay_18 : decode cX12_lay 18 = .ok (.aload_n 0, 1) := by decide +kernel
theorem dX12_lay_19 : decode cX12_lay 19 = .ok (.getfield 29, 3) := by decide +kernel
theorem dX12_lay_22 : decode cX12_lay 22 = .ok (.iconst (-1), 1) := by decide +kernel
theorem dX12_lay_23 : decode cX12_lay 23 = .ok (.if_icmp .eq 45, 3) := by decide +kernel
theorem dX12_lay_26 : decode cX12_lay 26 = .ok (.iload_n 2, 1) := by decide +kernel
theorem dX12_lay_27 : decode cX12_lay 27 = .ok (.ifCond .eq 33, 3) := by decide +kernel
theorem dX12_lay_30 : decode cX12_lay 30 = .ok (.aload_n 0, 1) := by decide +kernel
theorem dX12_lay_31 : decode cX12_lay 31 = .ok (.getfield 33, 3) := by decide +kernel
theorem dX12_lay_34 : decode cX12_lay 34 = .ok (.iload_n 3, 1) := by decide +kernel
theorem dX12_lay_35 : decode cX12_lay 35 = .ok (.laload, 1) := by decide +kernel
theorem dX12_lay_36 : decode cX12_lay 36 = .ok (.ldc2_w 116, 3) := by decide +kernel
theorem dX12_lay_39 : decode cX12_lay 39 = .ok (.lcmp, 1) := by decide +kernel
theorem dX12_lay_40 : decode cX12_lay 40 = .ok (.ifCond .lt 20, 3) := by decide +kernel
theorem dX12_lay_43 : decode cX12_lay 43 = .ok (.aload_n 0, 1) := by decide +kernel
theorem dX12_lay_44 : decode cX12_lay 44 = .ok (.getfield 33, 3) := by decide +kernel
theorem dX12_lay_47 : decode cX12_lay 47 = .ok (.iload_n 3, 1) := by decide +kernel
theorem dX12_lay_48 : decode cX12_lay 48 = .ok (.laload, 1) := by decide +kernel
theorem dX12_lay_49 : decode cX12_lay 49 = .ok (.ldc2_w 118, 3) := by decide +kernel
theorem dX12_lay_52 : decode cX12_lay 52 = .ok (.lcmp, 1) := by decide +kernel
theorem dX12_lay_53 : decode cX12_lay 53 = .ok (.ifCond .gt 7, 3) := by decide +kernel
theorem dX12_lay_56 : decode cX12_lay 56 = .ok (.iconst 1, 1) := by decide +kernel
theorem dX12_lay_57 : decode cX12_lay 57 = .ok (.goto 4, 3) := by decide +kernel
theorem dX12_lay_60 : decode cX12_lay 60 = .ok (.iconst 0, 1) := by decide +kernel
theorem dX12_lay_61 : decode cX12_lay 61 = .ok (.istore_n 2, 1) := by decide +kernel
theorem dX12_lay_62 : decode cX12_lay 62 = .ok (.iinc 3 1, 3) := by decide +kernel
theorem dX12_lay_65 : decode cX12_lay 65 = .ok (.goto (-52), 3) := by decide +kernel
theorem dX12_lay_68 : decode cX12_lay 68 = .ok (.iload_n 2, 1) := by decide +kernel
theorem dX12_lay_69 : decode cX12_lay 69 = .ok (.ifCond .eq 11, 3) := by decide +kernel
theorem dX12_lay_72 : decode cX12_lay 72 = .ok (.aload_n 0, 1) := by decide +kernel
theorem dX12_lay_73 : decode cX12_lay 73 = .ok (.getfield 29, 3) := by decide +kernel
theorem dX12_lay_76 : decode cX12_lay 76 = .ok (.iconst (-1), 1) := by decide +kernel
theorem dX12_lay_77 : decode cX12_lay 77 = .ok (.if_icmp .ne 19, 3) := by decide +kernel
theorem dX12_lay_80 : decode cX12_lay 80 = .ok (.aload_n 0, 1) := by decide +kernel
theorem dX12_lay_81 : decode cX12_lay 81 = .ok (.iload_n 2, 1) := by decide +kernel
theorem dX12_lay_82 : decode cX12_lay 82 = .ok (.ifCond .eq 7, 3) := by decide +kernel
theorem dX12_lay_85 : decode cX12_lay 85 = .ok (.iconst 2, 1) := by decide +kernel
theorem dX12_lay_86 : decode cX12_lay 86 = .ok (.goto 4, 3) := by decide +kernel
theorem dX12_lay_89 : decode cX12_lay 89 = .ok (.iconst 1, 1) := by decide +kernel
theorem dX12_lay_90 : decode cX12_lay 90 = .ok (.invokevirtual 98, 3) := by decide +kernel
theorem dX12_lay_93 : decode cX12_lay 93 = .ok (.pop, 1) := by decide +kernel
theorem dX12_lay_94 : decode cX12_lay 94 = .ok (.iconst 0, 1) := by decide +kernel
theorem dX12_lay_95 : decode cX12_lay 95 = .ok (.ireturn, 1) := by decide +kernel
theorem dX12_lay_96 : decode cX12_lay 96 = .ok (.aload_n 0, 1) := by decide +kernel
theorem dX12_lay_97 : decode cX12_lay 97 = .ok (.invokevirtual 102, 3) := by decide +kernel
theorem dX12_lay_100 : decode cX12_lay 100 = .ok (.iconst 0, 1) := by decide +kernel
theorem dX12_lay_101 : decode cX12_lay 101 = .ok (.istore_n 3, 1) := by decide +kernel
theorem dX12_lay_102 : decode cX12_lay 102 = .ok (.iload_n 3, 1) := by decide +kernel
theorem dX12_lay_103 : decode cX12_lay 103 = .ok (.iconst 4, 1) := by decide +kernel
theorem dX12_lay_104 : decode cX12_lay 104 = .ok (.if_icmp .ge 26, 3) := by decide +kernel
theorem dX12_lay_107 : decode cX12_lay 107 = .ok (.aload_n 0, 1) := by decide +kernel
theorem dX12_lay_108 : decode cX12_lay 108 = .ok (.getfield 13, 3) := by decide +kernel
theorem dX12_lay_111 : decode cX12_lay 111 = .ok (.iconst 4, 1) := by decide +kernel
theorem dX12_lay_112 : decode cX12_lay 112 = .ok (.iload_n 1, 1) := by decide +kernel
theorem dX12_lay_113 : decode cX12_lay 113 = .ok (.imul, 1) := by decide +kernel
theorem dX12_lay_114 : decode cX12_lay 114 = .ok (.iload_n 3, 1) := by decide +kernel
theorem dX12_lay_115 : decode cX12_lay 115 = .ok (.iadd, 1) := by decide +kernel
theorem dX12_lay_116 : decode cX12_lay 116 = .ok (.aload_n 0, 1) := by decide +kernel
theorem dX12_lay_117 : decode cX12_lay 117 = .ok (.getfield 33, 3) := by decide +kernel
theorem dX12_lay_120 : decode cX12_lay 120 = .ok (.iload_n 3, 1) := by decide +kernel
theorem dX12_lay_121 : decode cX12_lay 121 = .ok (.laload, 1) := by decide +kernel
theorem dX12_lay_122 : decode cX12_lay 122 = .ok (.l2i, 1) := by decide +kernel
theorem dX12_lay_123 : decode cX12_lay 123 = .ok (.iastore, 1) := by decide +kernel
theorem dX12_lay_124 : decode cX12_lay 124 = .ok (.iinc 3 1, 3) := by decide +kernel
theorem dX12_lay_127 : decode cX12_lay 127 = .ok (.goto (-25), 3) := by decide +kernel
theorem dX12_lay_130 : decode cX12_lay 130 = .ok (.aload_n 0, 1) := by decide +kernel
theorem dX12_lay_131 : decode cX12_lay 131 = .ok (.iconst (-1), 1) := by decide +kernel
theorem dX12_lay_132 : decode cX12_lay 132 = .ok (.putfield 29, 3) := by decide +kernel
theorem dX12_lay_135 : decode cX12_lay 135 = .ok (.iconst 1, 1) := by decide +kernel
theorem dX12_lay_136 : decode cX12_lay 136 = .ok (.ireturn, 1) := by decide +kernel
theorem dX12_measure_0 : decode cX12_measure 0 = .ok (.aload_n 0, 1) := by decide +kernel
theorem dX12_measure_1 : decode cX12_measure 1 = .ok (.iconst 0, 1) := by decide +kernel
theorem dX12_measure_2 : decode cX12_measure 2 = .ok (.putfield 77, 3) := by decide +kernel
theorem dX12_measure_5 : decode cX12_measure 5 = .ok (.iload_n 1, 1) := by decide +kernel
theorem dX12_measure_6 : decode cX12_measure 6 = .ok (.ifCond .lt 8, 3) := by decide +kernel
theorem dX12_measure_9 : decode cX12_measure 9 = .ok (.iload_n 1, 1) := by decide +kernel
theorem dX12_measure_10 : decode cX12_measure 10 = .ok (.iconst 2, 1) := by decide +kernel
theorem dX12_measure_11 : decode cX12_measure 11 = .ok (.if_icmp .le 9, 3) := by decide +kernel
theorem dX12_measure_14 : decode cX12_measure 14 = .ok (.aload_n 0, 1) := by decide +kernel
theorem dX12_measure_15 : decode cX12_measure 15 = .ok (.iconst 1, 1) := by decide +kernel
theorem dX12_measure_16 : decode cX12_measure 16 = .ok (.invokevirtual 98, 3) := by decide +kernel
theorem dX12_measure_19 : decode cX12_measure 19 = .ok (.ireturn, 1) := by decide +kernel
theorem dX12_measure_20 : decode cX12_measure 20 = .ok (.aload_n 0, 1) := by decide +kernel
theorem dX12_measure_21 : decode cX12_measure 21 = .ok (.invokevirtual 102, 3) := by decide +kernel
theorem dX12_measure_24 : decode cX12_measure 24 = .ok (.iconst 0, 1) := by decide +kernel
theorem dX12_measure_25 : decode cX12_measure 25 = .ok (.istore_n 2, 1) := by decide +kernel
theorem dX12_measure_26 : decode cX12_measure 26 = .ok (.iconst 0, 1) := by decide +kernel
theorem dX12_measure_27 : decode cX12_measure 27 = .ok (.istore_n 3, 1) := by decide +kernel
theorem dX12_measure_28 : decode cX12_measure 28 = .ok (.iload_n 3, 1) := by decide +kernel
theorem dX12_measure_29 : decode cX12_measure 29 = .ok (.aload_n 0, 1) := by decide +kernel
theorem dX12_measure_30 : decode cX12_measure 30 = .ok (.invokevirtual 90, 3) := by decide +kernel
theorem dX12_measure_33 : decode cX12_measure 33 = .ok (.if_icmp .ge 147, 3) := by decide +kernel
theorem dX12_measure_36 : decode cX12_measure 36 = .ok (.iload_n 3, 1) := by decide +kernel
theorem dX12_measure_37 : decode cX12_measure 37 = .ok (.iconst 1, 1) := by decide +kernel
theorem dX12_measure_38 : decode cX12_measure 38 = .ok (.iadd, 1) := by decide +kernel
theorem dX12_measure_39 : decode cX12_measure 39 = .ok (.istore 4, 2) := by decide +kernel
theorem dX12_measure_41 : decode cX12_measure 41 = .ok (.iload 4, 2) := by decide +kernel
theorem dX12_measure_43 : decode cX12_measure 43 = .ok (.aload_n 0, 1) := by decide +kernel
theorem dX12_measure_44 : decode cX12_measure 44 = .ok (.invokevirtual 90, 3) := by decide +kernel
theorem dX12_measure_47 : decode cX12_measure 47 = .ok (.if_icmp .ge 127, 3) := by decide +kernel
theorem dX12_measure_50 : decode cX12_measure 50 = .ok (.iconst 0, 1) := by decide +kernel
theorem dX12_measure_51 : decode cX12_measure 51 = .ok (.istore 5, 2) := by decide +kernel
theorem dX12_measure_53 : decode cX12_measure 53 = .ok (.iconst 0, 1) := by decide +kernel
theorem dX12_measure_54 : decode cX12_measure 54 = .ok (.istore 6, 2) := by decide +kernel
theorem dX12_measure_56 : decode cX12_measure 56 = .ok (.iload 6, 2) := by decide +kernel
theorem dX12_measure_58 : decode cX12_measure 58 = .ok (.iconst 4, 1) := by decide +kernel
theorem dX12_measure_59 : decode cX12_measure 59 = .ok (.if_icmp .ge 75, 3) := by decide +kernel
theorem dX12_measure_62 : decode cX12_measure 62 = .ok (.aload_n 0, 1) := by decide +kernel
theorem dX12_measure_63 : decode cX12_measure 63 = .ok (.getfield 13, 3) := by decide +kernel
theorem dX12_measure_66 : decode cX12_measure 66 = .ok (.iconst 4, 1) := by decide +kernel
theorem dX12_measure_67 : decode cX12_measure 67 = .ok (.iload_n 3, 1) := by decide +kernel
theorem dX12_measure_68 : decode cX12_measure 68 = .ok (.imul, 1) := by decide +kernel
theorem dX12_measure_69 : decode cX12_measure 69 = .ok (.iload 6, 2) := by decide +kernel
theorem dX12_measure_71 : decode cX12_measure 71 = .ok (.iadd, 1) := by decide +kernel
theorem dX12_measure_72 : decode cX12_measure 72 = .ok (.iaload, 1) := by decide +kernel
theorem dX12_measure_73 : decode cX12_measure 73 = .ok (.aload_n 0, 1) := by decide +kernel
theorem dX12_measure_74 : decode cX12_measure 74 = .ok (.getfield 13, 3) := by decide +kernel
theorem dX12_measure_77 : decode cX12_measure 77 = .ok (.iconst 4, 1) := by decide +kernel
theorem dX12_measure_78 : decode cX12_measure 78 = .ok (.iload 4, 2) := by decide +kernel
theorem dX12_measure_80 : decode cX12_measure 80 = .ok (.imul, 1) := by decide +kernel
theorem dX12_measure_81 : decode cX12_measure 81 = .ok (.iload 6, 2) := by decide +kernel
theorem dX12_measure_83 : decode cX12_measure 83 = .ok (.iadd, 1) := by decide +kernel
theorem dX12_measure_84 : decode cX12_measure 84 = .ok (.iaload, 1) := by decide +kernel
theorem dX12_measure_85 : decode cX12_measure 85 = .ok (.isub, 1) := by decide +kernel
theorem dX12_measure_86 : decode cX12_measure 86 = .ok (.invokestatic 120, 3) := by decide +kernel
theorem dX12_measure_89 : decode cX12_measure 89 = .ok (.istore 7, 2) := by decide +kernel
theorem dX12_measure_91 : decode cX12_measure 91 = .ok (.iload_n 1, 1) := by decide +kernel
theorem dX12_measure_92 : decode cX12_measure 92 = .ok (.ifCond .ne 11, 3) := by decide +kernel
theorem dX12_measure_95 : decode cX12_measure 95 = .ok (.iload 5, 2) := by decide +kernel
theorem dX12_measure_97 : decode cX12_measure 97 = .ok (.iload 7, 2) := by decide +kernel
theorem dX12_measure_99 : decode cX12_measure 99 = .ok (.iadd, 1) := by decide +kernel
theorem dX12_measure_100 : decode cX12_measure 100 = .ok (.goto 26, 3) := by decide +kernel
theorem dX12_measure_103 : decode cX12_measure 103 = .ok (.iload_n 1, 1) := by decide +kernel
theorem dX12_measure_104 : decode cX12_measure 104 = .ok (.iconst 1, 1) := by decide +kernel
theorem dX12_measure_105 : decode cX12_measure 105 = .ok (.if_icmp .ne 13, 3) := by decide +kernel
theorem dX12_measure_108 : decode cX12_measure 108 = .ok (.iload 5, 2) := by decide +kernel
theorem dX12_measure_110 : decode cX12_measure 110 = .ok (.iload 7, 2) := by decide +kernel
theorem dX12_measure_112 : decode cX12_measure 112 = .ok (.invokestatic 125, 3) := by decide +kernel
theorem dX12_measure_115 : decode cX12_measure 115 = .ok (.goto 11, 3) := by decide +kernel
theorem dX12_measure_118 : decode cX12_measure 118 = .ok (.iload 5, 2) := by decide +kernel
theorem dX12_measure_120 : decode cX12_measure 120 = .ok (.iload 7, 2) := by decide +kernel
theorem dX12_measure_122 : decode cX12_measure 122 = .ok (.iload 7, 2) := by decide +kernel
theorem dX12_measure_124 : decode cX12_measure 124 = .ok (.imul, 1) := by decide +kernel
theorem dX12_measure_125 : decode cX12_measure 125 = .ok (.iadd, 1) := by decide +kernel
theorem dX12_measure_126 : decode cX12_measure 126 = .ok (.istore 5, 2) := by decide +kernel
theorem dX12_measure_128 : decode cX12_measure 128 = .ok (.iinc 6 1, 3) := by decide +kernel
theorem dX12_measure_131 : decode cX12_measure 131 = .ok (.goto (-75), 3) := by decide +kernel
theorem dX12_measure_134 : decode cX12_measure 134 = .ok (.iload 5, 2) := by decide +kernel
theorem dX12_measure_136 : decode cX12_measure 136 = .ok (.sipush 10000, 3) := by decide +kernel
theorem dX12_measure_139 : decode cX12_measure 139 = .ok (.if_icmp .le 6, 3) := by decide +kernel
theorem dX12_measure_142 : decode cX12_measure 142 = .ok (.iinc 2 1, 3) := by decide +kernel
theorem dX12_measure_145 : decode cX12_measure 145 = .ok (.aload_n 0, 1) := by decide +kernel
theorem dX12_measure_146 : decode cX12_measure 146 = .ok (.iload_n 3, 1) := by decide +kernel
theorem dX12_measure_147 : decode cX12_measure 147 = .ok (.iload 4, 2) := by decide +kernel
theorem dX12_measure_149 : decode cX12_measure 149 = .ok (.iload 5, 2) := by decide +kernel
theorem dX12_measure_151 : decode cX12_measure 151 = .ok (.sipush 10000, 3) := by decide +kernel
theorem dX12_measure_154 : decode cX12_measure 154 = .ok (.if_icmp .le 9, 3) := by decide +kernel
theorem dX12_measure_157 : decode cX12_measure 157 = .ok (.sipush 10000, 3) := by decide +kernel
theorem dX12_measure_160 : decode cX12_measure 160 = .ok (.goto 5, 3) := by decide +kernel
theorem dX12_measure_163 : decode cX12_measure 163 = .ok (.iload 5, 2) := by decide +kernel
theorem dX12_measure_165 : decode cX12_measure 165 = .ok (.invokevirtual 109, 3) := by decide +kernel
theorem dX12_measure_168 : decode cX12_measure 168 = .ok (.iinc 4 1, 3) := by decide +kernel
theorem dX12_measure_171 : decode cX12_measure 171 = .ok (.goto (-130), 3) := by decide +kernel
theorem dX12_measure_174 : decode cX12_measure 174 = .ok (.iinc 3 1, 3) := by decide +kernel
theorem dX12_measure_177 : decode cX12_measure 177 = .ok (.goto (-149), 3) := by decide +kernel
theorem dX12_measure_180 : decode cX12_measure 180 = .ok (.iload_n 2, 1) := by decide +kernel
theorem dX12_measure_181 : decode cX12_measure 181 = .ok (.ireturn, 1) := by decide +kernel
theorem dX12_quarrel_0 : decode cX12_quarrel 0 = .ok (.aload_n 0, 1) := by decide +kernel
theorem dX12_quarrel_1 : decode cX12_quarrel 1 = .ok (.iconst 0, 1) := by decide +kernel
theorem dX12_quarrel_2 : decode cX12_quarrel 2 = .ok (.putfield 77, 3) := by decide +kernel
theorem dX12_quarrel_5 : decode cX12_quarrel 5 = .ok (.aload_n 0, 1) := by decide +kernel
theorem dX12_quarrel_6 : decode cX12_quarrel 6 = .ok (.iload_n 1, 1) := by decide +kernel
theorem dX12_quarrel_7 : decode cX12_quarrel 7 = .ok (.iload_n 2, 1) := by decide +kernel
theorem dX12_quarrel_8 : decode cX12_quarrel 8 = .ok (.invokevirtual 105, 3) := by decide +kernel
theorem dX12_quarrel_11 : decode cX12_quarrel 11 = .ok (.ifCond .eq 14, 3) := by decide +kernel
theorem dX12_quarrel_14 : decode cX12_quarrel 14 = .ok (.iload_n 3, 1) := by decide +kernel
theorem dX12_quarrel_15 : decode cX12_quarrel 15 = .ok (.ifCond .lt 10, 3) := by decide +kernel
theorem dX12_quarrel_18 : decode cX12_quarrel 18 = .ok (.iload_n 3, 1) := by decide +kernel
theorem dX12_quarrel_19 : decode cX12_quarrel 19 = .ok (.sipush 1000, 3) := by decide +kernel
theorem dX12_quarrel_22 : decode cX12_quarrel 22 = .ok (.if_icmp .le 11, 3) := by decide +kernel
theorem dX12_quarrel_25 : decode cX12_quarrel 25 = .ok (.aload_n 0, 1) := by decide +kernel
theorem dX12_quarrel_26 : decode cX12_quarrel 26 = .ok (.iconst 1, 1) := by decide +kernel
theorem dX12_quarrel_27 : decode cX12_quarrel 27 = .ok (.invokevirtual 98, 3) := by decide +kernel
theorem dX12_quarrel_30 : decode cX12_quarrel 30 = .ok (.pop, 1) := by decide +kernel
theorem dX12_quarrel_31 : decode cX12_quarrel 31 = .ok (.iconst 0, 1) := by decide +kernel
theorem dX12_quarrel_32 : decode cX12_quarrel 32 = .ok (.ireturn, 1) := by decide +kernel
theorem dX12_quarrel_33 : decode cX12_quarrel 33 = .ok (.aload_n 0, 1) := by decide +kernel
theorem dX12_quarrel_34 : decode cX12_quarrel 34 = .ok (.invokevirtual 102, 3) := by decide +kernel
theorem dX12_quarrel_37 : decode cX12_quarrel 37 = .ok (.aload_n 0, 1) := by decide +kernel
theorem dX12_quarrel_38 : decode cX12_quarrel 38 = .ok (.getfield 19, 3) := by decide +kernel
theorem dX12_quarrel_41 : decode cX12_quarrel 41 = .ok (.bipush 12, 2) := by decide +kernel
theorem dX12_quarrel_43 : decode cX12_quarrel 43 = .ok (.iload_n 1, 1) := by decide +kernel
theorem dX12_quarrel_44 : decode cX12_quarrel 44 = .ok (.imul, 1) := by decide +kernel
theorem dX12_quarrel_45 : decode cX12_quarrel 45 = .ok (.iload_n 2, 1) := by decide +kernel
theorem dX12_quarrel_46 : decode cX12_quarrel 46 = .ok (.iadd, 1) := by decide +kernel
theorem dX12_quarrel_47 : decode cX12_quarrel 47 = .ok (.iload_n 3, 1) := by decide +kernel
theorem dX12_quarrel_48 : decode cX12_quarrel 48 = .ok (.iastore, 1) := by decide +kernel
theorem dX12_quarrel_49 : decode cX12_quarrel 49 = .ok (.aload_n 0, 1) := by decide +kernel
theorem dX12_quarrel_50 : decode cX12_quarrel 50 = .ok (.getfield 19, 3) := by decide +kernel
theorem dX12_quarrel_53 : decode cX12_quarrel 53 = .ok (.bipush 12, 2) := by decide +kernel
theorem dX12_quarrel_55 : decode cX12_quarrel 55 = .ok (.iload_n 2, 1) := by decide +kernel
theorem dX12_quarrel_56 : decode cX12_quarrel 56 = .ok (.imul, 1) := by decide +kernel
theorem dX12_quarrel_57 : decode cX12_quarrel 57 = .ok (.iload_n 1, 1) := by decide +kernel
theorem dX12_quarrel_58 : decode cX12_quarrel 58 = .ok (.iadd, 1) := by decide +kernel
theorem dX12_quarrel_59 : decode cX12_quarrel 59 = .ok (.iload_n 3, 1) := by decide +kernel
theorem dX12_quarrel_60 : decode cX12_quarrel 60 = .ok (.iastore, 1) := by decide +kernel
theorem dX12_quarrel_61 : decode cX12_quarrel 61 = .ok (.aload_n 0, 1) := by decide +kernel
theorem dX12_quarrel_62 : decode cX12_quarrel 62 = .ok (.getfield 22, 3) := by decide +kernel
theorem dX12_quarrel_65 : decode cX12_quarrel 65 = .ok (.bipush 12, 2) := by decide +kernel
theorem dX12_quarrel_67 : decode cX12_quarrel 67 = .ok (.iload_n 1, 1) := by decide +kernel
theorem dX12_quarrel_68 : decode cX12_quarrel 68 = .ok (.imul, 1) := by decide +kernel
theorem dX12_quarrel_69 : decode cX12_quarrel 69 = .ok (.iload_n 2, 1) := by decide +kernel
theorem dX12_quarrel_70 : decode cX12_quarrel 70 = .ok (.iadd, 1) := by decide +kernel
theorem dX12_quarrel_71 : decode cX12_quarrel 71 = .ok (.iload 4, 2) := by decide +kernel
theorem dX12_quarrel_73 : decode cX12_quarrel 73 = .ok (.bastore, 1) := by decide +kernel
theorem dX12_quarrel_74 : decode cX12_quarrel 74 = .ok (.aload_n 0, 1) := by decide +kernel
theorem dX12_quarrel_75 : decode cX12_quarrel 75 = .ok (.getfield 22, 3) := by decide +kernel
theorem dX12_quarrel_78 : decode cX12_quarrel 78 = .ok (.bipush 12, 2) := by decide +kernel
theorem dX12_quarrel_80 : decode cX12_quarrel 80 = .ok (.iload_n 2, 1) := by decide +kernel
theorem dX12_quarrel_81 : decode cX12_quarrel 81 = .ok (.imul, 1) := by decide +kernel
theorem dX12_quarrel_82 : decode cX12_quarrel 82 = .ok (.iload_n 1, 1) := by decide +kernel
theorem dX12_quarrel_83 : decode cX12_quarrel 83 = .ok (.iadd, 1) := by decide +kernel
theorem dX12_quarrel_84 : decode cX12_quarrel 84 = .ok (.iload 4, 2) := by decide +kernel
theorem dX12_quarrel_86 : decode cX12_quarrel 86 = .ok (.bastore, 1) := by decide +kernel
theorem dX12_quarrel_87 : decode cX12_quarrel 87 = .ok (.iconst 1, 1) := by decide +kernel
theorem dX12_quarrel_88 : decode cX12_quarrel 88 = .ok (.ireturn, 1) := by decide +kernel
theorem dX12_number_0 : decode cX12_number 0 = .ok (.iconst 0, 1) := by decide +kernel
theorem dX12_number_1 : decode cX12_number 1 = .ok (.istore_n 2, 1) := by decide +kernel
theorem dX12_number_2 : decode cX12_number 2 = .ok (.iconst 0, 1) := by decide +kernel
theorem dX12_number_3 : decode cX12_number 3 = .ok (.istore_n 3, 1) := by decide +kernel
theorem dX12_number_4 : decode cX12_number 4 = .ok (.iload_n 3, 1) := by decide +kernel
theorem dX12_number_5 : decode cX12_number 5 = .ok (.aload_n 0, 1) := by decide +kernel
theorem dX12_number_6 : decode cX12_number 6 = .ok (.invokevirtual 90, 3) := by decide +kernel
theorem dX12_number_9 : decode cX12_number 9 = .ok (.if_icmp .ge 74, 3) := by decide +kernel
theorem dX12_number_12 : decode cX12_number 12 = .ok (.iload_n 3, 1) := by decide +kernel
theorem dX12_number_13 : decode cX12_number 13 = .ok (.istore 4, 2) := by decide +kernel
theorem dX12_number_15 : decode cX12_number 15 = .ok (.iload_n 3, 1) := by decide +kernel
theorem dX12_number_16 : decode cX12_number 16 = .ok (.iconst 1, 1) := by decide +kernel
theorem dX12_number_17 : decode cX12_number 17 = .ok (.isub, 1) := by decide +kernel
theorem dX12_number_18 : decode cX12_number 18 = .ok (.istore 5, 2) := by decide +kernel
theorem dX12_number_20 : decode cX12_number 20 = .ok (.iload 5, 2) := by decide +kernel
theorem dX12_number_22 : decode cX12_number 22 = .ok (.ifCond .lt 23, 3) := by decide +kernel
theorem dX12_number_25 : decode cX12_number 25 = .ok (.aload_n 1, 1) := by decide +kernel
theorem dX12_number_26 : decode cX12_number 26 = .ok (.iload 5, 2) := by decide +kernel
theorem dX12_number_28 : decode cX12_number 28 = .ok (.iaload, 1) := by decide +kernel
theorem dX12_number_29 : decode cX12_number 29 = .ok (.aload_n 1, 1) := by decide +kernel
theorem dX12_number_30 : decode cX12_number 30 = .ok (.iload_n 3, 1) := by decide +kernel
theorem dX12_number_31 : decode cX12_number 31 = .ok (.iaload, 1) := by decide +kernel
theorem dX12_number_32 : decode cX12_number 32 = .ok (.if_icmp .ne 7, 3) := by decide +kernel
theorem dX12_number_35 : decode cX12_number 35 = .ok (.iload 5, 2) := by decide +kernel
theorem dX12_number_37 : decode cX12_number 37 = .ok (.istore 4, 2) := by decide +kernel
theorem dX12_number_39 : decode cX12_number 39 = .ok (.iinc 5 (-1), 3) := by decide +kernel
theorem dX12_number_42 : decode cX12_number 42 = .ok (.goto (-22), 3) := by decide +kernel
theorem dX12_number_45 : decode cX12_number 45 = .ok (.aload_n 0, 1) := by decide +kernel
theorem dX12_number_46 : decode cX12_number 46 = .ok (.getfield 64, 3) := by decide +kernel
theorem dX12_number_49 : decode cX12_number 49 = .ok (.iload_n 3, 1) := by decide +kernel
theorem dX12_number_50 : decode cX12_number 50 = .ok (.iload 4, 2) := by decide +kernel
theorem dX12_number_52 : decode cX12_number 52 = .ok (.iload_n 3, 1) := by decide +kernel
theorem dX12_number_53 : decode cX12_number 53 = .ok (.if_icmp .ne 7, 3) := by decide +kernel
theorem dX12_number_56 : decode cX12_number 56 = .ok (.iload_n 2, 1) := by decide +kernel
theorem dX12_number_57 : decode cX12_number 57 = .ok (.goto 10, 3) := by decide +kernel
theorem dX12_number_60 : decode cX12_number 60 = .ok (.aload_n 0, 1) := by decide +kernel
theorem dX12_number_61 : decode cX12_number 61 = .ok (.getfield 64, 3) := by decide +kernel
theorem dX12_number_64 : decode cX12_number 64 = .ok (.iload 4, 2) := by decide +kernel
theorem dX12_number_66 : decode cX12_number 66 = .ok (.iaload, 1) := by decide +kernel
theorem dX12_number_67 : decode cX12_number 67 = .ok (.iastore, 1) := by decide +kernel
theorem dX12_number_68 : decode cX12_number 68 = .ok (.iload 4, 2) := by decide +kernel
theorem dX12_number_70 : decode cX12_number 70 = .ok (.iload_n 3, 1) := by decide +kernel
theorem dX12_number_71 : decode cX12_number 71 = .ok (.if_icmp .ne 6, 3) := by decide +kernel
theorem dX12_number_74 : decode cX12_number 74 = .ok (.iinc 2 1, 3) := by decide +kernel
theorem dX12_number_77 : decode cX12_number 77 = .ok (.iinc 3 1, 3) := by decide +kernel
theorem dX12_number_80 : decode cX12_number 80 = .ok (.goto (-76), 3) := by decide +kernel
theorem dX12_number_83 : decode cX12_number 83 = .ok (.iconst 0, 1) := by decide +kernel
theorem dX12_number_84 : decode cX12_number 84 = .ok (.istore_n 3, 1) := by decide +kernel
theorem dX12_number_85 : decode cX12_number 85 = .ok (.iload_n 3, 1) := by decide +kernel
theorem dX12_number_86 : decode cX12_number 86 = .ok (.aload_n 0, 1) := by decide +kernel
theorem dX12_number_87 : decode cX12_number 87 = .ok (.invokevirtual 90, 3) := by decide +kernel
theorem dX12_number_90 : decode cX12_number 90 = .ok (.if_icmp .ge 18, 3) := by decide +kernel
theorem dX12_number_93 : decode cX12_number 93 = .ok (.aload_n 1, 1) := by decide +kernel
theorem dX12_number_94 : decode cX12_number 94 = .ok (.iload_n 3, 1) := by decide +kernel
theorem dX12_number_95 : decode cX12_number 95 = .ok (.aload_n 0, 1) := by decide +kernel
theorem dX12_number_96 : decode cX12_number 96 = .ok (.getfield 64, 3) := by decide +kernel
theorem dX12_number_99 : decode cX12_number 99 = .ok (.iload_n 3, 1) := by decide +kernel
theorem dX12_number_100 : decode cX12_number 100 = .ok (.iaload, 1) := by decide +kernel
theorem dX12_number_101 : decode cX12_number 101 = .ok (.iastore, 1) := by decide +kernel
theorem dX12_number_102 : decode cX12_number 102 = .ok (.iinc 3 1, 3) := by decide +kernel
theorem dX12_number_105 : decode cX12_number 105 = .ok (.goto (-20), 3) := by decide +kernel
theorem dX12_number_108 : decode cX12_number 108 = .ok (.iload_n 2, 1) := by decide +kernel
theorem dX12_number_109 : decode cX12_number 109 = .ok (.ireturn, 1) := by decide +kernel
theorem dX12_heaps_0 : decode cX12_heaps 0 = .ok (.iconst 0, 1) := by decide +kernel
theorem dX12_heaps_1 : decode cX12_heaps 1 = .ok (.istore_n 2, 1) := by decide +kernel
theorem dX12_heaps_2 : decode cX12_heaps 2 = .ok (.iconst 0, 1) := by decide +kernel
theorem dX12_heaps_3 : decode cX12_heaps 3 = .ok (.istore_n 3, 1) := by decide +kernel
theorem dX12_heaps_4 : decode cX12_heaps 4 = .ok (.iload_n 3, 1) := by decide +kernel
theorem dX12_heaps_5 : decode cX12_heaps 5 = .ok (.aload_n 0, 1) := by decide +kernel
theorem dX12_heaps_6 : decode cX12_heaps 6 = .ok (.invokevirtual 90, 3) := by decide +kernel
theorem dX12_heaps_9 : decode cX12_heaps 9 = .ok (.if_icmp .ge 19, 3) := by decide +kernel
theorem dX12_heaps_12 : decode cX12_heaps 12 = .ok (.iload_n 2, 1) := by decide +kernel
theorem dX12_heaps_13 : decode cX12_heaps 13 = .ok (.aload_n 1, 1) := by decide +kernel
theorem dX12_heaps_14 : decode cX12_heaps 14 = .ok (.iload_n 3, 1) := by decide +kernel
theorem dX12_heaps_15 : decode cX12_heaps 15 = .ok (.iaload, 1) := by decide +kernel
theorem dX12_heaps_16 : decode cX12_heaps 16 = .ok (.iconst 1, 1) := by decide +kernel
theorem dX12_heaps_17 : decode cX12_heaps 17 = .ok (.iadd, 1) := by decide +kernel
theorem dX12_heaps_18 : decode cX12_heaps 18 = .ok (.invokestatic 125, 3) := by decide +kernel
theorem dX12_heaps_21 : decode cX12_heaps 21 = .ok (.istore_n 2, 1) := by decide +kernel
theorem dX12_heaps_22 : decode cX12_heaps 22 = .ok (.iinc 3 1, 3) := by decide +kernel
theorem dX12_heaps_25 : decode cX12_heaps 25 = .ok (.goto (-21), 3) := by decide +kernel
theorem dX12_heaps_28 : decode cX12_heaps 28 = .ok (.iload_n 2, 1) := by decide +kernel
theorem dX12_heaps_29 : decode cX12_heaps 29 = .ok (.ireturn, 1) := by decide +kernel
theorem dX12_next_0 : decode cX12_next 0 = .ok (.aload_n 0, 1) := by decide +kernel
theorem dX12_next_1 : decode cX12_next 1 = .ok (.invokevirtual 90, 3) := by decide +kernel
theorem dX12_next_4 : decode cX12_next 4 = .ok (.iconst 1, 1) := by decide +kernel
theorem dX12_next_5 : decode cX12_next 5 = .ok (.isub, 1) := by decide +kernel
theorem dX12_next_6 : decode cX12_next 6 = .ok (.istore_n 1, 1) := by decide +kernel
theorem dX12_next_7 : decode cX12_next 7 = .ok (.iload_n 1, 1) := by decide +kernel
theorem dX12_next_8 : decode cX12_next 8 = .ok (.ifCond .le 85, 3) := by decide +kernel
theorem dX12_next_11 : decode cX12_next 11 = .ok (.iconst 0, 1) := by decide +kernel
theorem dX12_next_12 : decode cX12_next 12 = .ok (.istore_n 2, 1) := by decide +kernel
theorem dX12_next_13 : decode cX12_next 13 = .ok (.iconst 0, 1) := by decide +kernel
theorem dX12_next_14 : decode cX12_next 14 = .ok (.istore_n 3, 1) := by decide +kernel
theorem dX12_next_15 : decode cX12_next 15 = .ok (.iload_n 3, 1) := by decide +kernel
theorem dX12_next_16 : decode cX12_next 16 = .ok (.iload_n 1, 1) := by decide +kernel
theorem dX12_next_17 : decode cX12_next 17 = .ok (.if_icmp .ge 20, 3) := by decide +kernel
theorem dX12_next_20 : decode cX12_next 20 = .ok (.iload_n 2, 1) := by decide +kernel
theorem dX12_next_21 : decode cX12_next 21 = .ok (.aload_n 0, 1) := by decide +kernel
theorem dX12_next_22 : decode cX12_next 22 = .ok (.getfield 58, 3) := by decide +kernel
theorem dX12_next_25 : decode cX12_next 25 = .ok (.iload_n 3, 1) := by decide +kernel
theorem dX12_next_26 : decode cX12_next 26 = .ok (.iaload, 1) := by decide +kernel
theorem dX12_next_27 : decode cX12_next 27 = .ok (.invokestatic 125, 3) := by decide +kernel
theorem dX12_next_30 : decode cX12_next 30 = .ok (.istore_n 2, 1) := by decide +kernel
theorem dX12_next_31 : decode cX12_next 31 = .ok (.iinc 3 1, 3) := by decide +kernel
theorem dX12_next_34 : decode cX12_next 34 = .ok (.goto (-19), 3) := by decide +kernel
theorem dX12_next_37 : decode cX12_next 37 = .ok (.aload_n 0, 1) := by decide +kernel
theorem dX12_next_38 : decode cX12_next 38 = .ok (.getfield 58, 3) := by decide +kernel
theorem dX12_next_41 : decode cX12_next 41 = .ok (.iload_n 1, 1) := by decide +kernel
theorem dX12_next_42 : decode cX12_next 42 = .ok (.iaload, 1) := by decide +kernel
theorem dX12_next_43 : decode cX12_next 43 = .ok (.iload_n 2, 1) := by decide +kernel
theorem dX12_next_44 : decode cX12_next 44 = .ok (.if_icmp .le 6, 3) := by decide +kernel
theorem dX12_next_47 : decode cX12_next 47 = .ok (.goto 40, 3) := by decide +kernel
theorem dX12_next_50 : decode cX12_next 50 = .ok (.aload_n 0, 1) := by decide +kernel
theorem dX12_next_51 : decode cX12_next 51 = .ok (.getfield 58, 3) := by decide +kernel
theorem dX12_next_54 : decode cX12_next 54 = .ok (.iload_n 1, 1) := by decide +kernel
theorem dX12_next_55 : decode cX12_next 55 = .ok (.dup2, 1) := by decide +kernel
theorem dX12_next_56 : decode cX12_next 56 = .ok (.iaload, 1) := by decide +kernel
theorem dX12_next_57 : decode cX12_next 57 = .ok (.iconst 1, 1) := by decide +kernel
theorem dX12_next_58 : decode cX12_next 58 = .ok (.iadd, 1) := by decide +kernel
theorem dX12_next_59 : decode cX12_next 59 = .ok (.iastore, 1) := by decide +kernel
theorem dX12_next_60 : decode cX12_next 60 = .ok (.iload_n 1, 1) := by decide +kernel
theorem dX12_next_61 : decode cX12_next 61 = .ok (.iconst 1, 1) := by decide +kernel
theorem dX12_next_62 : decode cX12_next 62 = .ok (.iadd, 1) := by decide +kernel
theorem dX12_next_63 : decode cX12_next 63 = .ok (.istore_n 3, 1) := by decide +kernel
theorem dX12_next_64 : decode cX12_next 64 = .ok (.iload_n 3, 1) := by decide +kernel
theorem dX12_next_65 : decode cX12_next 65 = .ok (.aload_n 0, 1) := by decide +kernel
theorem dX12_next_66 : decode cX12_next 66 = .ok (.invokevirtual 90, 3) := by decide +kernel
theorem dX12_next_69 : decode cX12_next 69 = .ok (.if_icmp .ge 16, 3) := by decide +kernel
theorem dX12_next_72 : decode cX12_next 72 = .ok (.aload_n 0, 1) := by decide +kernel
theorem dX12_next_73 : decode cX12_next 73 = .ok (.getfield 58, 3) := by decide +kernel
theorem dX12_next_76 : decode cX12_next 76 = .ok (.iload_n 3, 1) := by decide +kernel
theorem dX12_next_77 : decode cX12_next 77 = .ok (.iconst 0, 1) := by decide +kernel
theorem dX12_next_78 : decode cX12_next 78 = .ok (.iastore, 1) := by decide +kernel
theorem dX12_next_79 : decode cX12_next 79 = .ok (.iinc 3 1, 3) := by decide +kernel
theorem dX12_next_82 : decode cX12_next 82 = .ok (.goto (-18), 3) := by decide +kernel
theorem dX12_next_85 : decode cX12_next 85 = .ok (.iconst 1, 1) := by decide +kernel
theorem dX12_next_86 : decode cX12_next 86 = .ok (.ireturn, 1) := by decide +kernel
theorem dX12_next_87 : decode cX12_next 87 = .ok (.iinc 1 (-1), 3) := by decide +kernel
theorem dX12_next_90 : decode cX12_next 90 = .ok (.goto (-83), 3) := by decide +kernel
theorem dX12_next_93 : decode cX12_next 93 = .ok (.iconst 0, 1) := by decide +kernel
theorem dX12_next_94 : decode cX12_next 94 = .ok (.ireturn, 1) := by decide +kernel
theorem dX12_isAhead_0 : decode cX12_isAhead 0 = .ok (.iconst 0, 1) := by decide +kernel
theorem dX12_isAhead_1 : decode cX12_isAhead 1 = .ok (.istore_n 3, 1) := by decide +kernel
theorem dX12_isAhead_2 : decode cX12_isAhead 2 = .ok (.iload_n 3, 1) := by decide +kernel
theorem dX12_isAhead_3 : decode cX12_isAhead 3 = .ok (.aload_n 0, 1) := by decide +kernel
theorem dX12_isAhead_4 : decode cX12_isAhead 4 = .ok (.invokevirtual 90, 3) := by decide +kernel
theorem dX12_isAhead_7 : decode cX12_isAhead 7 = .ok (.if_icmp .ge 33, 3) := by decide +kernel
theorem dX12_isAhead_10 : decode cX12_isAhead 10 = .ok (.aload_n 1, 1) := by decide +kernel
theorem dX12_isAhead_11 : decode cX12_isAhead 11 = .ok (.iload_n 3, 1) := by decide +kernel
theorem dX12_isAhead_12 : decode cX12_isAhead 12 = .ok (.iaload, 1) := by decide +kernel
theorem dX12_isAhead_13 : decode cX12_isAhead 13 = .ok (.aload_n 2, 1) := by decide +kernel
theorem dX12_isAhead_14 : decode cX12_isAhead 14 = .ok (.iload_n 3, 1) := by decide +kernel
theorem dX12_isAhead_15 : decode cX12_isAhead 15 = .ok (.iaload, 1) := by decide +kernel
theorem dX12_isAhead_16 : decode cX12_isAhead 16 = .ok (.if_icmp .eq 18, 3) := by decide +kernel
theorem dX12_isAhead_19 : decode cX12_isAhead 19 = .ok (.aload_n 1, 1) := by decide +kernel
theorem dX12_isAhead_20 : decode cX12_isAhead 20 = .ok (.iload_n 3, 1) := by decide +kernel
theorem dX12_isAhead_21 : decode cX12_isAhead 21 = .ok (.iaload, 1) := by decide +kernel
theorem dX12_isAhead_22 : decode cX12_isAhead 22 = .ok (.aload_n 2, 1) := by decide +kernel
theorem dX12_isAhead_23 : decode cX12_isAhead 23 = .ok (.iload_n 3, 1) := by decide +kernel
theorem dX12_isAhead_24 : decode cX12_isAhead 24 = .ok (.iaload, 1) := by decide +kernel
theorem dX12_isAhead_25 : decode cX12_isAhead 25 = .ok (.if_icmp .ge 7, 3) := by decide +kernel
theorem dX12_isAhead_28 : decode cX12_isAhead 28 = .ok (.iconst 1, 1) := by decide +kernel
theorem dX12_isAhead_29 : decode cX12_isAhead 29 = .ok (.goto 4, 3) := by decide +kernel
theorem dX12_isAhead_32 : decode cX12_isAhead 32 = .ok (.iconst 0, 1) := by decide +kernel
theorem dX12_isAhead_33 : decode cX12_isAhead 33 = .ok (.ireturn, 1) := by decide +kernel
theorem dX12_isAhead_34 : decode cX12_isAhead 34 = .ok (.iinc 3 1, 3) := by decide +kernel
theorem dX12_isAhead_37 : decode cX12_isAhead 37 = .ok (.goto (-35), 3) := by decide +kernel
theorem dX12_isAhead_40 : decode cX12_isAhead 40 = .ok (.iconst 0, 1) := by decide +kernel
theorem dX12_isAhead_41 : decode cX12_isAhead 41 = .ok (.ireturn, 1) := by decide +kernel
theorem dX12_useWays_0 : decode cX12_useWays 0 = .ok (.iconst 0, 1) := by decide +kernel
theorem dX12_useWays_1 : decode cX12_useWays 1 = .ok (.istore_n 1, 1) := by decide +kernel
theorem dX12_useWays_2 : decode cX12_useWays 2 = .ok (.iload_n 1, 1) := by decide +kernel
theorem dX12_useWays_3 : decode cX12_useWays 3 = .ok (.sipush 144, 3) := by decide +kernel
theorem dX12_useWays_6 : decode cX12_useWays 6 = .ok (.if_icmp .ge 21, 3) := by decide +kernel
theorem dX12_useWays_9 : decode cX12_useWays 9 = .ok (.aload_n 0, 1) := by decide +kernel
theorem dX12_useWays_10 : decode cX12_useWays 10 = .ok (.getfield 67, 3) := by decide +kernel
theorem dX12_useWays_13 : decode cX12_useWays 13 = .ok (.iload_n 1, 1) := by decide +kernel
theorem dX12_useWays_14 : decode cX12_useWays 14 = .ok (.aload_n 0, 1) := by decide +kernel
theorem dX12_useWays_15 : decode cX12_useWays 15 = .ok (.getfield 16, 3) := by decide +kernel
theorem dX12_useWays_18 : decode cX12_useWays 18 = .ok (.iload_n 1, 1) := by decide +kernel
theorem dX12_useWays_19 : decode cX12_useWays 19 = .ok (.iaload, 1) := by decide +kernel
theorem dX12_useWays_20 : decode cX12_useWays 20 = .ok (.iastore, 1) := by decide +kernel
theorem dX12_useWays_21 : decode cX12_useWays 21 = .ok (.iinc 1 1, 3) := by decide +kernel
theorem dX12_useWays_24 : decode cX12_useWays 24 = .ok (.goto (-22), 3) := by decide +kernel
theorem dX12_useWays_27 : decode cX12_useWays 27 = .ok (.return_, 1) := by decide +kernel
theorem dX12_sumTo_0 : decode cX12_sumTo 0 = .ok (.iconst 0, 1) := by decide +kernel
theorem dX12_sumTo_1 : decode cX12_sumTo 1 = .ok (.istore 4, 2) := by decide +kernel
theorem dX12_sumTo_3 : decode cX12_sumTo 3 = .ok (.iconst 0, 1) := by decide +kernel
theorem dX12_sumTo_4 : decode cX12_sumTo 4 = .ok (.istore 5, 2) := by decide +kernel
theorem dX12_sumTo_6 : decode cX12_sumTo 6 = .ok (.iload 5, 2) := by decide +kernel
theorem dX12_sumTo_8 : decode cX12_sumTo 8 = .ok (.aload_n 0, 1) := by decide +kernel
theorem dX12_sumTo_9 : decode cX12_sumTo 9 = .ok (.invokevirtual 90, 3) := by decide +kernel
theorem dX12_sumTo_12 : decode cX12_sumTo 12 = .ok (.if_icmp .ge 34, 3) := by decide +kernel
theorem dX12_sumTo_15 : decode cX12_sumTo 15 = .ok (.aload_n 1, 1) := by decide +kernel
theorem dX12_sumTo_16 : decode cX12_sumTo 16 = .ok (.iload 5, 2) := by decide +kernel
theorem dX12_sumTo_18 : decode cX12_sumTo 18 = .ok (.iaload, 1) := by decide +kernel
theorem dX12_sumTo_19 : decode cX12_sumTo 19 = .ok (.iload_n 2, 1) := by decide +kernel
theorem dX12_sumTo_20 : decode cX12_sumTo 20 = .ok (.if_icmp .ne 20, 3) := by decide +kernel
theorem dX12_sumTo_23 : decode cX12_sumTo 23 = .ok (.iload 4, 2) := by decide +kernel
theorem dX12_sumTo_25 : decode cX12_sumTo 25 = .ok (.aload_n 0, 1) := by decide +kernel
theorem dX12_sumTo_26 : decode cX12_sumTo 26 = .ok (.getfield 67, 3) := by decide +kernel
theorem dX12_sumTo_29 : decode cX12_sumTo 29 = .ok (.bipush 12, 2) := by decide +kernel
theorem dX12_sumTo_31 : decode cX12_sumTo 31 = .ok (.iload_n 3, 1) := by decide +kernel
theorem dX12_sumTo_32 : decode cX12_sumTo 32 = .ok (.imul, 1) := by decide +kernel
theorem dX12_sumTo_33 : decode cX12_sumTo 33 = .ok (.iload 5, 2) := by decide +kernel
theorem dX12_sumTo_35 : decode cX12_sumTo 35 = .ok (.iadd, 1) := by decide +kernel
theorem dX12_sumTo_36 : decode cX12_sumTo 36 = .ok (.iaload, 1) := by decide +kernel
theorem dX12_sumTo_37 : decode cX12_sumTo 37 = .ok (.iadd, 1) := by decide +kernel
theorem dX12_sumTo_38 : decode cX12_sumTo 38 = .ok (.istore 4, 2) := by decide +kernel
theorem dX12_sumTo_40 : decode cX12_sumTo 40 = .ok (.iinc 5 1, 3) := by decide +kernel
theorem dX12_sumTo_43 : decode cX12_sumTo 43 = .ok (.goto (-37), 3) := by decide +kernel
theorem dX12_sumTo_46 : decode cX12_sumTo 46 = .ok (.iload 4, 2) := by decide +kernel
theorem dX12_sumTo_48 : decode cX12_sumTo 48 = .ok (.ireturn, 1) := by decide +kernel
theorem dX12_middleOf_0 : decode cX12_middleOf 0 = .ok (.iconst (-1), 1) := by decide +kernel
theorem dX12_middleOf_1 : decode cX12_middleOf 1 = .ok (.istore_n 3, 1) := by decide +kernel
theorem dX12_middleOf_2 : decode cX12_middleOf 2 = .ok (.iconst 0, 1) := by decide +kernel
theorem dX12_middleOf_3 : decode cX12_middleOf 3 = .ok (.istore 4, 2) := by decide +kernel
theorem dX12_middleOf_5 : decode cX12_middleOf 5 = .ok (.iload 4, 2) := by decide +kernel
theorem dX12_middleOf_7 : decode cX12_middleOf 7 = .ok (.aload_n 0, 1) := by decide +kernel
theorem dX12_middleOf_8 : decode cX12_middleOf 8 = .ok (.invokevirtual 90, 3) := by decide +kernel
theorem dX12_middleOf_11 : decode cX12_middleOf 11 = .ok (.if_icmp .ge 46, 3) := by decide +kernel
theorem dX12_middleOf_14 : decode cX12_middleOf 14 = .ok (.aload_n 1, 1) := by decide +kernel
theorem dX12_middleOf_15 : decode cX12_middleOf 15 = .ok (.iload 4, 2) := by decide +kernel
theorem dX12_middleOf_17 : decode cX12_middleOf 17 = .ok (.iaload, 1) := by decide +kernel
theorem dX12_middleOf_18 : decode cX12_middleOf 18 = .ok (.iload_n 2, 1) := by decide +kernel
theorem dX12_middleOf_19 : decode cX12_middleOf 19 = .ok (.if_icmp .eq 6, 3) := by decide +kernel
theorem dX12_middleOf_22 : decode cX12_middleOf 22 = .ok (.goto 29, 3) := by decide +kernel
theorem dX12_middleOf_25 : decode cX12_middleOf 25 = .ok (.iload_n 3, 1) := by decide +kernel
theorem dX12_middleOf_26 : decode cX12_middleOf 26 = .ok (.iconst (-1), 1) := by decide +kernel
theorem dX12_middleOf_27 : decode cX12_middleOf 27 = .ok (.if_icmp .eq 21, 3) := by decide +kernel
theorem dX12_middleOf_30 : decode cX12_middleOf 30 = .ok (.aload_n 0, 1) := by decide +kernel
theorem dX12_middleOf_31 : decode cX12_middleOf 31 = .ok (.aload_n 1, 1) := by decide +kernel
theorem dX12_middleOf_32 : decode cX12_middleOf 32 = .ok (.iload_n 2, 1) := by decide +kernel
theorem dX12_middleOf_33 : decode cX12_middleOf 33 = .ok (.iload 4, 2) := by decide +kernel
theorem dX12_middleOf_35 : decode cX12_middleOf 35 = .ok (.invokevirtual 129, 3) := by decide +kernel
theorem dX12_middleOf_38 : decode cX12_middleOf 38 = .ok (.aload_n 0, 1) := by decide +kernel
theorem dX12_middleOf_39 : decode cX12_middleOf 39 = .ok (.aload_n 1, 1) := by decide +kernel
theorem dX12_middleOf_40 : decode cX12_middleOf 40 = .ok (.iload_n 2, 1) := by decide +kernel
theorem dX12_middleOf_41 : decode cX12_middleOf 41 = .ok (.iload_n 3, 1) := by decide +kernel
theorem dX12_middleOf_42 : decode cX12_middleOf 42 = .ok (.invokevirtual 129, 3) := by decide +kernel
theorem dX12_middleOf_45 : decode cX12_middleOf 45 = .ok (.if_icmp .ge 6, 3) := by decide +kernel
theorem dX12_middleOf_48 : decode cX12_middleOf 48 = .ok (.iload 4, 2) := by decide +kernel
theorem dX12_middleOf_50 : decode cX12_middleOf 50 = .ok (.istore_n 3, 1) := by decide +kernel
theorem dX12_middleOf_51 : decode cX12_middleOf 51 = .ok (.iinc 4 1, 3) := by decide +kernel
theorem dX12_middleOf_54 : decode cX12_middleOf 54 = .ok (.goto (-49), 3) := by decide +kernel
theorem dX12_middleOf_57 : decode cX12_middleOf 57 = .ok (.iload_n 3, 1) := by decide +kernel
theorem dX12_middleOf_58 : decode cX12_middleOf 58 = .ok (.ireturn, 1) := by decide +kernel
