theorem dX10_correct_13 : decode cX10_correct 13 = .ok (.iload_n 2, 1) := by decide +kernel
theorem dX10_correct_14 : decode cX10_correct 14 = .ok (.invokevirtual 281, 3) := by decide +kernel
theorem dX10_correct_17 : decode cX10_correct 17 = .ok (.goto 4, 3) := by decide +kernel
theorem dX10_correct_20 : decode cX10_correct 20 = .ok (.iconst (-1), 1) := by decide +kernel
theorem dX10_correct_21 : decode cX10_correct 21 = .ok (.istore_n 3, 1) := by decide +kernel
theorem dX10_correct_22 : decode cX10_correct 22 = .ok (.iload_n 3, 1) := by decide +kernel
theorem dX10_correct_23 : decode cX10_correct 23 = .ok (.iconst (-1), 1) := by decide +kernel
theorem dX10_correct_24 : decode cX10_correct 24 = .ok (.if_icmp .ne 5, 3) := by decide +kernel
theorem dX10_correct_27 : decode cX10_correct 27 = .ok (.iconst (-1), 1) := by decide +kernel
theorem dX10_correct_28 : decode cX10_correct 28 = .ok (.ireturn, 1) := by decide +kernel
theorem dX10_correct_29 : decode cX10_correct 29 = .ok (.aload_n 0, 1) := by decide +kernel
theorem dX10_correct_30 : decode cX10_correct 30 = .ok (.getfield 44, 3) := by decide +kernel
theorem dX10_correct_33 : decode cX10_correct 33 = .ok (.aload_n 0, 1) := by decide +kernel
theorem dX10_correct_34 : decode cX10_correct 34 = .ok (.getfield 26, 3) := by decide +kernel
theorem dX10_correct_37 : decode cX10_correct 37 = .ok (.invokevirtual 126, 3) := by decide +kernel
theorem dX10_correct_40 : decode cX10_correct 40 = .ok (.aload_n 0, 1) := by decide +kernel
theorem dX10_correct_41 : decode cX10_correct 41 = .ok (.getfield 26, 3) := by decide +kernel
theorem dX10_correct_44 : decode cX10_correct 44 = .ok (.getfield 143, 3) := by decide +kernel
theorem dX10_correct_47 : decode cX10_correct 47 = .ok (.iload_n 1, 1) := by decide +kernel
theorem dX10_correct_48 : decode cX10_correct 48 = .ok (.dup2, 1) := by decide +kernel
theorem dX10_correct_49 : decode cX10_correct 49 = .ok (.iaload, 1) := by decide +kernel
theorem dX10_correct_50 : decode cX10_correct 50 = .ok (.iload_n 3, 1) := by decide +kernel
theorem dX10_correct_51 : decode cX10_correct 51 = .ok (.ixor, 1) := by decide +kernel
theorem dX10_correct_52 : decode cX10_correct 52 = .ok (.iastore, 1) := by decide +kernel
theorem dX10_correct_53 : decode cX10_correct 53 = .ok (.iload_n 3, 1) := by decide +kernel
theorem dX10_correct_54 : decode cX10_correct 54 = .ok (.invokestatic 288, 3) := by decide +kernel
theorem dX10_correct_57 : decode cX10_correct 57 = .ok (.ireturn, 1) := by decide +kernel
theorem dX10_distance_0 : decode cX10_distance 0 = .ok (.iload_n 1, 1) := by decide +kernel
theorem dX10_distance_1 : decode cX10_distance 1 = .ok (.invokestatic 181, 3) := by decide +kernel
theorem dX10_distance_4 : decode cX10_distance 4 = .ok (.ifCond .ne 5, 3) := by decide +kernel
theorem dX10_distance_7 : decode cX10_distance 7 = .ok (.iconst (-1), 1) := by decide +kernel
theorem dX10_distance_8 : decode cX10_distance 8 = .ok (.ireturn, 1) := by decide +kernel
theorem dX10_distance_9 : decode cX10_distance 9 = .ok (.aload_n 0, 1) := by decide +kernel
theorem dX10_distance_10 : decode cX10_distance 10 = .ok (.getfield 86, 3) := by decide +kernel
theorem dX10_distance_13 : decode cX10_distance 13 = .ok (.aload_n 0, 1) := by decide +kernel
theorem dX10_distance_14 : decode cX10_distance 14 = .ok (.getfield 26, 3) := by decide +kernel
theorem dX10_distance_17 : decode cX10_distance 17 = .ok (.iload_n 1, 1) := by decide +kernel
theorem dX10_distance_18 : decode cX10_distance 18 = .ok (.invokevirtual 293, 3) := by decide +kernel
theorem dX10_distance_21 : decode cX10_distance 21 = .ok (.ireturn, 1) := by decide +kernel
theorem dX10_like_0 : decode cX10_like 0 = .ok (.iload_n 1, 1) := by decide +kernel
theorem dX10_like_1 : decode cX10_like 1 = .ok (.invokestatic 181, 3) := by decide +kernel
theorem dX10_like_4 : decode cX10_like 4 = .ok (.ifCond .eq 28, 3) := by decide +kernel
theorem dX10_like_7 : decode cX10_like 7 = .ok (.iload_n 2, 1) := by decide +kernel
theorem dX10_like_8 : decode cX10_like 8 = .ok (.invokestatic 297, 3) := by decide +kernel
theorem dX10_like_11 : decode cX10_like 11 = .ok (.ifCond .eq 21, 3) := by decide +kernel
theorem dX10_like_14 : decode cX10_like 14 = .ok (.iload_n 3, 1) := by decide +kernel
theorem dX10_like_15 : decode cX10_like 15 = .ok (.ifCond .lt 17, 3) := by decide +kernel
theorem dX10_like_18 : decode cX10_like 18 = .ok (.iload_n 3, 1) := by decide +kernel
theorem dX10_like_19 : decode cX10_like 19 = .ok (.aload_n 0, 1) := by decide +kernel
theorem dX10_like_20 : decode cX10_like 20 = .ok (.getfield 26, 3) := by decide +kernel
theorem dX10_like_23 : decode cX10_like 23 = .ok (.getfield 113, 3) := by decide +kernel
theorem dX10_like_26 : decode cX10_like 26 = .ok (.getfield 116, 3) := by decide +kernel
theorem dX10_like_29 : decode cX10_like 29 = .ok (.if_icmp .le 5, 3) := by decide +kernel
theorem dX10_like_32 : decode cX10_like 32 = .ok (.iconst (-1), 1) := by decide +kernel
theorem dX10_like_33 : decode cX10_like 33 = .ok (.ireturn, 1) := by decide +kernel
theorem dX10_like_34 : decode cX10_like 34 = .ok (.aload_n 0, 1) := by decide +kernel
theorem dX10_like_35 : decode cX10_like 35 = .ok (.getfield 86, 3) := by decide +kernel
theorem dX10_like_38 : decode cX10_like 38 = .ok (.aload_n 0, 1) := by decide +kernel
theorem dX10_like_39 : decode cX10_like 39 = .ok (.getfield 26, 3) := by decide +kernel
theorem dX10_like_42 : decode cX10_like 42 = .ok (.iload_n 1, 1) := by decide +kernel
theorem dX10_like_43 : decode cX10_like 43 = .ok (.iload_n 2, 1) := by decide +kernel
theorem dX10_like_44 : decode cX10_like 44 = .ok (.invokevirtual 300, 3) := by decide +kernel
theorem dX10_like_47 : decode cX10_like 47 = .ok (.aload_n 0, 1) := by decide +kernel
theorem dX10_like_48 : decode cX10_like 48 = .ok (.getfield 86, 3) := by decide +kernel
theorem dX10_like_51 : decode cX10_like 51 = .ok (.getfield 304, 3) := by decide +kernel
theorem dX10_like_54 : decode cX10_like 54 = .ok (.iload_n 3, 1) := by decide +kernel
theorem dX10_like_55 : decode cX10_like 55 = .ok (.iaload, 1) := by decide +kernel
theorem dX10_like_56 : decode cX10_like 56 = .ok (.ireturn, 1) := by decide +kernel
theorem dX10_odds_0 : decode cX10_odds 0 = .ok (.iload_n 1, 1) := by decide +kernel
theorem dX10_odds_1 : decode cX10_odds 1 = .ok (.invokestatic 181, 3) := by decide +kernel
theorem dX10_odds_4 : decode cX10_odds 4 = .ok (.ifCond .eq 25, 3) := by decide +kernel
theorem dX10_odds_7 : decode cX10_odds 7 = .ok (.iload_n 2, 1) := by decide +kernel
theorem dX10_odds_8 : decode cX10_odds 8 = .ok (.invokestatic 297, 3) := by decide +kernel
theorem dX10_odds_11 : decode cX10_odds 11 = .ok (.ifCond .eq 18, 3) := by decide +kernel
theorem dX10_odds_14 : decode cX10_odds 14 = .ok (.iload_n 3, 1) := by decide +kernel
theorem dX10_odds_15 : decode cX10_odds 15 = .ok (.invokestatic 307, 3) := by decide +kernel
theorem dX10_odds_18 : decode cX10_odds 18 = .ok (.ifCond .eq 11, 3) := by decide +kernel
theorem dX10_odds_21 : decode cX10_odds 21 = .ok (.iload 4, 2) := by decide +kernel
theorem dX10_odds_23 : decode cX10_odds 23 = .ok (.invokestatic 307, 3) := by decide +kernel
theorem dX10_odds_26 : decode cX10_odds 26 = .ok (.ifCond .ne 7, 3) := by decide +kernel
theorem dX10_odds_29 : decode cX10_odds 29 = .ok (.ldc2_w 310, 3) := by decide +kernel
theorem dX10_odds_32 : decode cX10_odds 32 = .ok (.lreturn, 1) := by decide +kernel
theorem dX10_odds_33 : decode cX10_odds 33 = .ok (.aload_n 0, 1) := by decide +kernel
theorem dX10_odds_34 : decode cX10_odds 34 = .ok (.getfield 86, 3) := by decide +kernel
theorem dX10_odds_37 : decode cX10_odds 37 = .ok (.aload_n 0, 1) := by decide +kernel
theorem dX10_odds_38 : decode cX10_odds 38 = .ok (.getfield 26, 3) := by decide +kernel
theorem dX10_odds_41 : decode cX10_odds 41 = .ok (.iload_n 1, 1) := by decide +kernel
theorem dX10_odds_42 : decode cX10_odds 42 = .ok (.iload_n 2, 1) := by decide +kernel
theorem dX10_odds_43 : decode cX10_odds 43 = .ok (.invokevirtual 300, 3) := by decide +kernel
theorem dX10_odds_46 : decode cX10_odds 46 = .ok (.aload_n 0, 1) := by decide +kernel
theorem dX10_odds_47 : decode cX10_odds 47 = .ok (.getfield 86, 3) := by decide +kernel
theorem dX10_odds_50 : decode cX10_odds 50 = .ok (.aload_n 0, 1) := by decide +kernel
theorem dX10_odds_51 : decode cX10_odds 51 = .ok (.getfield 26, 3) := by decide +kernel
theorem dX10_odds_54 : decode cX10_odds 54 = .ok (.getfield 113, 3) := by decide +kernel
theorem dX10_odds_57 : decode cX10_odds 57 = .ok (.getfield 116, 3) := by decide +kernel
theorem dX10_odds_60 : decode cX10_odds 60 = .ok (.iload_n 3, 1) := by decide +kernel
theorem dX10_odds_61 : decode cX10_odds 61 = .ok (.iload 4, 2) := by decide +kernel
theorem dX10_odds_63 : decode cX10_odds 63 = .ok (.invokevirtual 312, 3) := by decide +kernel
theorem dX10_odds_66 : decode cX10_odds 66 = .ok (.lreturn, 1) := by decide +kernel
theorem dX10_press_0 : decode cX10_press 0 = .ok (.aload_n 0, 1) := by decide +kernel
theorem dX10_press_1 : decode cX10_press 1 = .ok (.iload_n 1, 1) := by decide +kernel
theorem dX10_press_2 : decode cX10_press 2 = .ok (.iload_n 2, 1) := by decide +kernel
theorem dX10_press_3 : decode cX10_press 3 = .ok (.invokevirtual 154, 3) := by decide +kernel
theorem dX10_press_6 : decode cX10_press 6 = .ok (.ifCond .ne 5, 3) := by decide +kernel
theorem dX10_press_9 : decode cX10_press 9 = .ok (.iconst (-1), 1) := by decide +kernel
theorem dX10_press_10 : decode cX10_press 10 = .ok (.ireturn, 1) := by decide +kernel
theorem dX10_press_11 : decode cX10_press 11 = .ok (.aload_n 0, 1) := by decide +kernel
theorem dX10_press_12 : decode cX10_press 12 = .ok (.getfield 44, 3) := by decide +kernel
theorem dX10_press_15 : decode cX10_press 15 = .ok (.aload_n 0, 1) := by decide +kernel
theorem dX10_press_16 : decode cX10_press 16 = .ok (.getfield 26, 3) := by decide +kernel
theorem dX10_press_19 : decode cX10_press 19 = .ok (.invokevirtual 126, 3) := by decide +kernel
theorem dX10_press_22 : decode cX10_press 22 = .ok (.iconst 1, 1) := by decide +kernel
theorem dX10_press_23 : decode cX10_press 23 = .ok (.iload_n 1, 1) := by decide +kernel
theorem dX10_press_24 : decode cX10_press 24 = .ok (.isub, 1) := by decide +kernel
theorem dX10_press_25 : decode cX10_press 25 = .ok (.istore_n 3, 1) := by decide +kernel
theorem dX10_press_26 : decode cX10_press 26 = .ok (.aload_n 0, 1) := by decide +kernel
theorem dX10_press_27 : decode cX10_press 27 = .ok (.getfield 26, 3) := by decide +kernel
theorem dX10_press_30 : decode cX10_press 30 = .ok (.getfield 143, 3) := by decide +kernel
theorem dX10_press_33 : decode cX10_press 33 = .ok (.iload_n 3, 1) := by decide +kernel
theorem dX10_press_34 : decode cX10_press 34 = .ok (.dup2, 1) := by decide +kernel
theorem dX10_press_35 : decode cX10_press 35 = .ok (.iaload, 1) := by decide +kernel
theorem dX10_press_36 : decode cX10_press 36 = .ok (.aload_n 0, 1) := by decide +kernel
theorem dX10_press_37 : decode cX10_press 37 = .ok (.getfield 26, 3) := by decide +kernel
theorem dX10_press_40 : decode cX10_press 40 = .ok (.getfield 113, 3) := by decide +kernel
theorem dX10_press_43 : decode cX10_press 43 = .ok (.getfield 168, 3) := by decide +kernel
theorem dX10_press_46 : decode cX10_press 46 = .ok (.iload_n 1, 1) := by decide +kernel
theorem dX10_press_47 : decode cX10_press 47 = .ok (.aaload, 1) := by decide +kernel
theorem dX10_press_48 : decode cX10_press 48 = .ok (.iload_n 2, 1) := by decide +kernel
theorem dX10_press_49 : decode cX10_press 49 = .ok (.iaload, 1) := by decide +kernel
theorem dX10_press_50 : decode cX10_press 50 = .ok (.ixor, 1) := by decide +kernel
theorem dX10_press_51 : decode cX10_press 51 = .ok (.iastore, 1) := by decide +kernel
theorem dX10_press_52 : decode cX10_press 52 = .ok (.aload_n 0, 1) := by decide +kernel
theorem dX10_press_53 : decode cX10_press 53 = .ok (.getfield 26, 3) := by decide +kernel
theorem dX10_press_56 : decode cX10_press 56 = .ok (.getfield 113, 3) := by decide +kernel
theorem dX10_press_59 : decode cX10_press 59 = .ok (.iload_n 3, 1) := by decide +kernel
theorem dX10_press_60 : decode cX10_press 60 = .ok (.aload_n 0, 1) := by decide +kernel
theorem dX10_press_61 : decode cX10_press 61 = .ok (.getfield 26, 3) := by decide +kernel
theorem dX10_press_64 : decode cX10_press 64 = .ok (.getfield 143, 3) := by decide +kernel
theorem dX10_press_67 : decode cX10_press 67 = .ok (.iload_n 3, 1) := by decide +kernel
theorem dX10_press_68 : decode cX10_press 68 = .ok (.iaload, 1) := by decide +kernel
theorem dX10_press_69 : decode cX10_press 69 = .ok (.invokevirtual 316, 3) := by decide +kernel
theorem dX10_press_72 : decode cX10_press 72 = .ok (.ireturn, 1) := by decide +kernel
theorem dX10_chain_0 : decode cX10_chain 0 = .ok (.iload_n 1, 1) := by decide +kernel
theorem dX10_chain_1 : decode cX10_chain 1 = .ok (.invokestatic 181, 3) := by decide +kernel
theorem dX10_chain_4 : decode cX10_chain 4 = .ok (.ifCond .ne 5, 3) := by decide +kernel
theorem dX10_chain_7 : decode cX10_chain 7 = .ok (.iconst (-1), 1) := by decide +kernel
theorem dX10_chain_8 : decode cX10_chain 8 = .ok (.ireturn, 1) := by decide +kernel
theorem dX10_chain_9 : decode cX10_chain 9 = .ok (.aload_n 0, 1) := by decide +kernel
theorem dX10_chain_10 : decode cX10_chain 10 = .ok (.getfield 44, 3) := by decide +kernel
theorem dX10_chain_13 : decode cX10_chain 13 = .ok (.aload_n 0, 1) := by decide +kernel
theorem dX10_chain_14 : decode cX10_chain 14 = .ok (.getfield 26, 3) := by decide +kernel
theorem dX10_chain_17 : decode cX10_chain 17 = .ok (.invokevirtual 126, 3) := by decide +kernel
theorem dX10_chain_20 : decode cX10_chain 20 = .ok (.aload_n 0, 1) := by decide +kernel
theorem dX10_chain_21 : decode cX10_chain 21 = .ok (.getfield 26, 3) := by decide +kernel
theorem dX10_chain_24 : decode cX10_chain 24 = .ok (.getfield 143, 3) := by decide +kernel
theorem dX10_chain_27 : decode cX10_chain 27 = .ok (.iload_n 1, 1) := by decide +kernel
theorem dX10_chain_28 : decode cX10_chain 28 = .ok (.dup2, 1) := by decide +kernel
theorem dX10_chain_29 : decode cX10_chain 29 = .ok (.iaload, 1) := by decide +kernel
theorem dX10_chain_30 : decode cX10_chain 30 = .ok (.aload_n 0, 1) := by decide +kernel
theorem dX10_chain_31 : decode cX10_chain 31 = .ok (.getfield 26, 3) := by decide +kernel
theorem dX10_chain_34 : decode cX10_chain 34 = .ok (.getfield 113, 3) := by decide +kernel
theorem dX10_chain_37 : decode cX10_chain 37 = .ok (.getfield 319, 3) := by decide +kernel
theorem dX10_chain_40 : decode cX10_chain 40 = .ok (.iload_n 1, 1) := by decide +kernel
theorem dX10_chain_41 : decode cX10_chain 41 = .ok (.iaload, 1) := by decide +kernel
theorem dX10_chain_42 : decode cX10_chain 42 = .ok (.ixor, 1) := by decide +kernel
theorem dX10_chain_43 : decode cX10_chain 43 = .ok (.iastore, 1) := by decide +kernel
theorem dX10_chain_44 : decode cX10_chain 44 = .ok (.aload_n 0, 1) := by decide +kernel
theorem dX10_chain_45 : decode cX10_chain 45 = .ok (.getfield 26, 3) := by decide +kernel
theorem dX10_chain_48 : decode cX10_chain 48 = .ok (.getfield 113, 3) := by decide +kernel
theorem dX10_chain_51 : decode cX10_chain 51 = .ok (.iload_n 1, 1) := by decide +kernel
theorem dX10_chain_52 : decode cX10_chain 52 = .ok (.aload_n 0, 1) := by decide +kernel
theorem dX10_chain_53 : decode cX10_chain 53 = .ok (.getfield 26, 3) := by decide +kernel
theorem dX10_chain_56 : decode cX10_chain 56 = .ok (.getfield 143, 3) := by decide +kernel
theorem dX10_chain_59 : decode cX10_chain 59 = .ok (.iload_n 1, 1) := by decide +kernel
theorem dX10_chain_60 : decode cX10_chain 60 = .ok (.iaload, 1) := by decide +kernel
theorem dX10_chain_61 : decode cX10_chain 61 = .ok (.invokevirtual 316, 3) := by decide +kernel
theorem dX10_chain_64 : decode cX10_chain 64 = .ok (.ireturn, 1) := by decide +kernel
theorem dX10_line_0 : decode cX10_line 0 = .ok (.iload_n 1, 1) := by decide +kernel
theorem dX10_line_1 : decode cX10_line 1 = .ok (.ifCond .lt 19, 3) := by decide +kernel
theorem dX10_line_4 : decode cX10_line 4 = .ok (.iload_n 1, 1) := by decide +kernel
theorem dX10_line_5 : decode cX10_line 5 = .ok (.iconst 2, 1) := by decide +kernel
theorem dX10_line_6 : decode cX10_line 6 = .ok (.aload_n 0, 1) := by decide +kernel
theorem dX10_line_7 : decode cX10_line 7 = .ok (.getfield 26, 3) := by decide +kernel
theorem dX10_line_10 : decode cX10_line 10 = .ok (.getfield 113, 3) := by decide +kernel
theorem dX10_line_13 : decode cX10_line 13 = .ok (.getfield 104, 3) := by decide +kernel
theorem dX10_line_16 : decode cX10_line 16 = .ok (.imul, 1) := by decide +kernel
theorem dX10_line_17 : decode cX10_line 17 = .ok (.if_icmp .le 5, 3) := by decide +kernel
theorem dX10_line_20 : decode cX10_line 20 = .ok (.iconst (-1), 1) := by decide +kernel
theorem dX10_line_21 : decode cX10_line 21 = .ok (.ireturn, 1) := by decide +kernel
theorem dX10_line_22 : decode cX10_line 22 = .ok (.aload_n 0, 1) := by decide +kernel
theorem dX10_line_23 : decode cX10_line 23 = .ok (.getfield 93, 3) := by decide +kernel
theorem dX10_line_26 : decode cX10_line 26 = .ok (.aload_n 0, 1) := by decide +kernel
theorem dX10_line_27 : decode cX10_line 27 = .ok (.getfield 26, 3) := by decide +kernel
theorem dX10_line_30 : decode cX10_line 30 = .ok (.iload_n 1, 1) := by decide +kernel
theorem dX10_line_31 : decode cX10_line 31 = .ok (.invokevirtual 322, 3) := by decide +kernel
theorem dX10_line_34 : decode cX10_line 34 = .ok (.aload_n 0, 1) := by decide +kernel
theorem dX10_line_35 : decode cX10_line 35 = .ok (.getfield 93, 3) := by decide +kernel
theorem dX10_line_38 : decode cX10_line 38 = .ok (.getfield 325, 3) := by decide +kernel
theorem dX10_line_41 : decode cX10_line 41 = .ok (.ireturn, 1) := by decide +kernel
theorem dX10_byteAt_0 : decode cX10_byteAt 0 = .ok (.iload_n 1, 1) := by decide +kernel
theorem dX10_byteAt_1 : decode cX10_byteAt 1 = .ok (.ifCond .lt 14, 3) := by decide +kernel
theorem dX10_byteAt_4 : decode cX10_byteAt 4 = .ok (.iload_n 1, 1) := by decide +kernel
theorem dX10_byteAt_5 : decode cX10_byteAt 5 = .ok (.aload_n 0, 1) := by decide +kernel
theorem dX10_byteAt_6 : decode cX10_byteAt 6 = .ok (.getfield 93, 3) := by decide +kernel
theorem dX10_byteAt_9 : decode cX10_byteAt 9 = .ok (.getfield 325, 3) := by decide +kernel
theorem dX10_byteAt_12 : decode cX10_byteAt 12 = .ok (.if_icmp .lt 5, 3) := by decide +kernel
theorem dX10_byteAt_15 : decode cX10_byteAt 15 = .ok (.iconst (-1), 1) := by decide +kernel
theorem dX10_byteAt_16 : decode cX10_byteAt 16 = .ok (.ireturn, 1) := by decide +kernel
theorem dX10_byteAt_17 : decode cX10_byteAt 17 = .ok (.aload_n 0, 1) := by decide +kernel
theorem dX10_byteAt_18 : decode cX10_byteAt 18 = .ok (.getfield 93, 3) := by decide +kernel
theorem dX10_byteAt_21 : decode cX10_byteAt 21 = .ok (.getfield 328, 3) := by decide +kernel
theorem dX10_byteAt_24 : decode cX10_byteAt 24 = .ok (.iload_n 1, 1) := by decide +kernel
theorem dX10_byteAt_25 : decode cX10_byteAt 25 = .ok (.iaload, 1) := by decide +kernel
theorem dX10_byteAt_26 : decode cX10_byteAt 26 = .ok (.ireturn, 1) := by decide +kernel
theorem dX10_fewest_0 : decode cX10_fewest 0 = .ok (.iload_n 1, 1) := by decide +kernel
theorem dX10_fewest_1 : decode cX10_fewest 1 = .ok (.invokestatic 181, 3) := by decide +kernel
theorem dX10_fewest_4 : decode cX10_fewest 4 = .ok (.ifCond .eq 10, 3) := by decide +kernel
theorem dX10_fewest_7 : decode cX10_fewest 7 = .ok (.iload_n 2, 1) := by decide +kernel
theorem dX10_fewest_8 : decode cX10_fewest 8 = .ok (.invokestatic 297, 3) := by decide +kernel
theorem dX10_fewest_11 : decode cX10_fewest 11 = .ok (.ifCond .ne 5, 3) := by decide +kernel
theorem dX10_fewest_14 : decode cX10_fewest 14 = .ok (.iconst (-1), 1) := by decide +kernel
theorem dX10_fewest_15 : decode cX10_fewest 15 = .ok (.ireturn, 1) := by decide +kernel
theorem dX10_fewest_16 : decode cX10_fewest 16 = .ok (.aload_n 0, 1) := by decide +kernel
theorem dX10_fewest_17 : decode cX10_fewest 17 = .ok (.getfield 86, 3) := by decide +kernel
theorem dX10_fewest_20 : decode cX10_fewest 20 = .ok (.aload_n 0, 1) := by decide +kernel
theorem dX10_fewest_21 : decode cX10_fewest 21 = .ok (.getfield 26, 3) := by decide +kernel
theorem dX10_fewest_24 : decode cX10_fewest 24 = .ok (.iload_n 1, 1) := by decide +kernel
theorem dX10_fewest_25 : decode cX10_fewest 25 = .ok (.iload_n 2, 1) := by decide +kernel
theorem dX10_fewest_26 : decode cX10_fewest 26 = .ok (.invokevirtual 300, 3) := by decide +kernel
theorem dX10_fewest_29 : decode cX10_fewest 29 = .ok (.aload_n 0, 1) := by decide +kernel
theorem dX10_fewest_30 : decode cX10_fewest 30 = .ok (.getfield 86, 3) := by decide +kernel
theorem dX10_fewest_33 : decode cX10_fewest 33 = .ok (.aload_n 0, 1) := by decide +kernel
theorem dX10_fewest_34 : decode cX10_fewest 34 = .ok (.getfield 26, 3) := by decide +kernel
theorem dX10_fewest_37 : decode cX10_fewest 37 = .ok (.getfield 113, 3) := by decide +kernel
theorem dX10_fewest_40 : decode cX10_fewest 40 = .ok (.getfield 116, 3) := by decide +kernel
theorem dX10_fewest_43 : decode cX10_fewest 43 = .ok (.invokevirtual 331, 3) := by decide +kernel
theorem dX10_fewest_46 : decode cX10_fewest 46 = .ok (.ireturn, 1) := by decide +kernel
theorem dX10_drawn_0 : decode cX10_drawn 0 = .ok (.aload_n 0, 1) := by decide +kernel
theorem dX10_drawn_1 : decode cX10_drawn 1 = .ok (.iload_n 1, 1) := by decide +kernel
theorem dX10_drawn_2 : decode cX10_drawn 2 = .ok (.iload_n 2, 1) := by decide +kernel
theorem dX10_drawn_3 : decode cX10_drawn 3 = .ok (.invokevirtual 334, 3) := by decide +kernel
theorem dX10_drawn_6 : decode cX10_drawn 6 = .ok (.ifCond .ne 5, 3) := by decide +kernel
theorem dX10_drawn_9 : decode cX10_drawn 9 = .ok (.iconst (-1), 1) := by decide +kernel
theorem dX10_drawn_10 : decode cX10_drawn 10 = .ok (.ireturn, 1) := by decide +kernel
theorem dX10_drawn_11 : decode cX10_drawn 11 = .ok (.aload_n 0, 1) := by decide +kernel
theorem dX10_drawn_12 : decode cX10_drawn 12 = .ok (.getfield 44, 3) := by decide +kernel
theorem dX10_drawn_15 : decode cX10_drawn 15 = .ok (.aload_n 0, 1) := by decide +kernel
theorem dX10_drawn_16 : decode cX10_drawn 16 = .ok (.getfield 26, 3) := by decide +kernel
theorem dX10_drawn_19 : decode cX10_drawn 19 = .ok (.invokevirtual 126, 3) := by decide +kernel
theorem dX10_drawn_22 : decode cX10_drawn 22 = .ok (.aload_n 0, 1) := by decide +kernel
theorem dX10_drawn_23 : decode cX10_drawn 23 = .ok (.getfield 26, 3) := by decide +kernel
theorem dX10_drawn_26 : decode cX10_drawn 26 = .ok (.iload_n 1, 1) := by decide +kernel
theorem dX10_drawn_27 : decode cX10_drawn 27 = .ok (.iload_n 2, 1) := by decide +kernel
theorem dX10_drawn_28 : decode cX10_drawn 28 = .ok (.iload_n 3, 1) := by decide +kernel
theorem dX10_drawn_29 : decode cX10_drawn 29 = .ok (.invokevirtual 337, 3) := by decide +kernel
theorem dX10_drawn_32 : decode cX10_drawn 32 = .ok (.ireturn, 1) := by decide +kernel
theorem dX10_often_0 : decode cX10_often 0 = .ok (.iload_n 1, 1) := by decide +kernel
theorem dX10_often_1 : decode cX10_often 1 = .ok (.invokestatic 181, 3) := by decide +kernel
theorem dX10_often_4 : decode cX10_often 4 = .ok (.ifCond .eq 12, 3) := by decide +kernel
theorem dX10_often_7 : decode cX10_often 7 = .ok (.iload_n 2, 1) := by decide +kernel
theorem dX10_often_8 : decode cX10_often 8 = .ok (.ifCond .lt 8, 3) := by decide +kernel
theorem dX10_often_11 : decode cX10_often 11 = .ok (.iload_n 2, 1) := by decide +kernel
theorem dX10_often_12 : decode cX10_often 12 = .ok (.iconst 2, 1) := by decide +kernel
theorem dX10_often_13 : decode cX10_often 13 = .ok (.if_icmp .le 5, 3) := by decide +kernel
theorem dX10_often_16 : decode cX10_often 16 = .ok (.iconst (-1), 1) := by decide +kernel
theorem dX10_often_17 : decode cX10_often 17 = .ok (.ireturn, 1) := by decide +kernel
theorem dX10_often_18 : decode cX10_often 18 = .ok (.aload_n 0, 1) := by decide +kernel
theorem dX10_often_19 : decode cX10_often 19 = .ok (.iload_n 3, 1) := by decide +kernel
theorem dX10_often_20 : decode cX10_often 20 = .ok (.iload 4, 2) := by decide +kernel
theorem dX10_often_22 : decode cX10_often 22 = .ok (.invokevirtual 334, 3) := by decide +kernel
theorem dX10_often_25 : decode cX10_often 25 = .ok (.ifCond .eq 16, 3) := by decide +kernel
theorem dX10_often_28 : decode cX10_often 28 = .ok (.iload 6, 2) := by decide +kernel
theorem dX10_often_30 : decode cX10_often 30 = .ok (.iconst 1, 1) := by decide +kernel
theorem dX10_often_31 : decode cX10_often 31 = .ok (.if_icmp .lt 10, 3) := by decide +kernel
theorem dX10_often_34 : decode cX10_often 34 = .ok (.iload 6, 2) := by decide +kernel
theorem dX10_often_36 : decode cX10_often 36 = .ok (.bipush 8, 2) := by decide +kernel
theorem dX10_often_38 : decode cX10_often 38 = .ok (.if_icmp .le 5, 3) := by decide +kernel
theorem dX10_often_41 : decode cX10_often 41 = .ok (.iconst (-1), 1) := by decide +kernel
theorem dX10_often_42 : decode cX10_often 42 = .ok (.ireturn, 1) := by decide +kernel
theorem dX10_often_43 : decode cX10_often 43 = .ok (.iconst 0, 1) := by decide +kernel
theorem dX10_often_44 : decode cX10_often 44 = .ok (.istore 7, 2) := by decide +kernel
theorem dX10_often_46 : decode cX10_often 46 = .ok (.iconst 0, 1) := by decide +kernel
theorem dX10_often_47 : decode cX10_often 47 = .ok (.istore 8, 2) := by decide +kernel
theorem dX10_often_49 : decode cX10_often 49 = .ok (.iload 8, 2) := by decide +kernel
theorem dX10_often_51 : decode cX10_often 51 = .ok (.iload 6, 2) := by decide +kernel
theorem dX10_often_53 : decode cX10_often 53 = .ok (.if_icmp .ge 53, 3) := by decide +kernel
theorem dX10_often_56 : decode cX10_often 56 = .ok (.aload_n 0, 1) := by decide +kernel
theorem dX10_often_57 : decode cX10_often 57 = .ok (.getfield 30, 3) := by decide +kernel
theorem dX10_often_60 : decode cX10_often 60 = .ok (.aload_n 0, 1) := by decide +kernel
theorem dX10_often_61 : decode cX10_often 61 = .ok (.getfield 26, 3) := by decide +kernel
theorem dX10_often_64 : decode cX10_often 64 = .ok (.invokevirtual 341, 3) := by decide +kernel
theorem dX10_often_67 : decode cX10_often 67 = .ok (.aload_n 0, 1) := by decide +kernel
theorem dX10_often_68 : decode cX10_often 68 = .ok (.getfield 30, 3) := by decide +kernel
theorem dX10_often_71 : decode cX10_often 71 = .ok (.iload_n 3, 1) := by decide +kernel
theorem dX10_often_72 : decode cX10_often 72 = .ok (.iload 4, 2) := by decide +kernel
theorem dX10_often_74 : decode cX10_often 74 = .ok (.iload 5, 2) := by decide +kernel
theorem dX10_often_76 : decode cX10_often 76 = .ok (.iload 8, 2) := by decide +kernel
theorem dX10_often_78 : decode cX10_often 78 = .ok (.iadd, 1) := by decide +kernel
theorem dX10_often_79 : decode cX10_often 79 = .ok (.invokevirtual 337, 3) := by decide +kernel
theorem dX10_often_82 : decode cX10_often 82 = .ok (.pop, 1) := by decide +kernel
theorem dX10_often_83 : decode cX10_often 83 = .ok (.aload_n 0, 1) := by decide +kernel
theorem dX10_often_84 : decode cX10_often 84 = .ok (.aload_n 0, 1) := by decide +kernel
theorem dX10_often_85 : decode cX10_often 85 = .ok (.getfield 30, 3) := by decide +kernel
theorem dX10_often_88 : decode cX10_often 88 = .ok (.iload_n 1, 1) := by decide +kernel
theorem dX10_often_89 : decode cX10_often 89 = .ok (.iload_n 2, 1) := by decide +kernel
theorem dX10_often_90 : decode cX10_often 90 = .ok (.invokevirtual 285, 3) := by decide +kernel
theorem dX10_often_93 : decode cX10_often 93 = .ok (.iconst 1, 1) := by decide +kernel
theorem dX10_often_94 : decode cX10_often 94 = .ok (.if_icmp .ne 6, 3) := by decide +kernel
theorem dX10_often_97 : decode cX10_often 97 = .ok (.iinc 7 1, 3) := by decide +kernel
theorem dX10_often_100 : decode cX10_often 100 = .ok (.iinc 8 1, 3) := by decide +kernel
theorem dX10_often_103 : decode cX10_often 103 = .ok (.goto (-54), 3) := by decide +kernel
theorem dX10_often_106 : decode cX10_often 106 = .ok (.iload 7, 2) := by decide +kernel
theorem dX10_often_108 : decode cX10_often 108 = .ok (.ireturn, 1) := by decide +kernel
theorem dX10_undo_0 : decode cX10_undo 0 = .ok (.aload_n 0, 1) := by decide +kernel
theorem dX10_undo_1 : decode cX10_undo 1 = .ok (.getfield 44, 3) := by decide +kernel
theorem dX10_undo_4 : decode cX10_undo 4 = .ok (.getfield 110, 3) := by decide +kernel
theorem dX10_undo_7 : decode cX10_undo 7 = .ok (.ifCond .ne 5, 3) := by decide +kernel
theorem dX10_undo_10 : decode cX10_undo 10 = .ok (.iconst (-1), 1) := by decide +kernel
theorem dX10_undo_11 : decode cX10_undo 11 = .ok (.ireturn, 1) := by decide +kernel
theorem dX10_undo_12 : decode cX10_undo 12 = .ok (.aload_n 0, 1) := by decide +kernel
theorem dX10_undo_13 : decode cX10_undo 13 = .ok (.getfield 44, 3) := by decide +kernel
theorem dX10_undo_16 : decode cX10_undo 16 = .ok (.aload_n 0, 1) := by decide +kernel
theorem dX10_undo_17 : decode cX10_undo 17 = .ok (.getfield 26, 3) := by decide +kernel
theorem dX10_undo_20 : decode cX10_undo 20 = .ok (.invokevirtual 344, 3) := by decide +kernel
theorem dX10_undo_23 : decode cX10_undo 23 = .ok (.aload_n 0, 1) := by decide +kernel
theorem dX10_undo_24 : decode cX10_undo 24 = .ok (.getfield 44, 3) := by decide +kernel
theorem dX10_undo_27 : decode cX10_undo 27 = .ok (.getfield 110, 3) := by decide +kernel
theorem dX10_undo_30 : decode cX10_undo 30 = .ok (.ireturn, 1) := by decide +kernel
theorem dX10_image_0 : decode cX10_image 0 = .ok (.iload_n 1, 1) := by decide +kernel
theorem dX10_image_1 : decode cX10_image 1 = .ok (.ifCond .lt 8, 3) := by decide +kernel
theorem dX10_image_4 : decode cX10_image 4 = .ok (.iload_n 1, 1) := by decide +kernel
theorem dX10_image_5 : decode cX10_image 5 = .ok (.iconst 2, 1) := by decide +kernel
theorem dX10_image_6 : decode cX10_image 6 = .ok (.if_icmp .lt 5, 3) := by decide +kernel
theorem dX10_image_9 : decode cX10_image 9 = .ok (.iconst 0, 1) := by decide +kernel
theorem dX10_image_10 : decode cX10_image 10 = .ok (.ireturn, 1) := by decide +kernel
theorem dX10_image_11 : decode cX10_image 11 = .ok (.aload_n 0, 1) := by decide +kernel
theorem dX10_image_12 : decode cX10_image 12 = .ok (.getfield 33, 3) := by decide +kernel
theorem dX10_image_15 : decode cX10_image 15 = .ok (.iload_n 1, 1) := by decide +kernel
theorem dX10_image_16 : decode cX10_image 16 = .ok (.aaload, 1) := by decide +kernel
theorem dX10_image_17 : decode cX10_image 17 = .ok (.aload_n 0, 1) := by decide +kernel
theorem dX10_image_18 : decode cX10_image 18 = .ok (.getfield 26, 3) := by decide +kernel
theorem dX10_image_21 : decode cX10_image 21 = .ok (.invokevirtual 341, 3) := by decide +kernel
theorem dX10_image_24 : decode cX10_image 24 = .ok (.aload_n 0, 1) := by decide +kernel
theorem dX10_image_25 : decode cX10_image 25 = .ok (.getfield 37, 3) := by decide +kernel
theorem dX10_image_28 : decode cX10_image 28 = .ok (.iload_n 1, 1) := by decide +kernel
theorem dX10_image_29 : decode cX10_image 29 = .ok (.iconst 1, 1) := by decide +kernel
theorem dX10_image_30 : decode cX10_image 30 = .ok (.bastore, 1) := by decide +kernel
theorem dX10_image_31 : decode cX10_image 31 = .ok (.iconst 1, 1) := by decide +kernel
theorem dX10_image_32 : decode cX10_image 32 = .ok (.ireturn, 1) := by decide +kernel
theorem dX10_restore_0 : decode cX10_restore 0 = .ok (.iload_n 1, 1) := by decide +kernel
theorem dX10_restore_1 : decode cX10_restore 1 = .ok (.ifCond .lt 17, 3) := by decide +kernel
theorem dX10_restore_4 : decode cX10_restore 4 = .ok (.iload_n 1, 1) := by decide +kernel
theorem dX10_restore_5 : decode cX10_restore 5 = .ok (.iconst 2, 1) := by decide +kernel
theorem dX10_restore_6 : decode cX10_restore 6 = .ok (.if_icmp .ge 12, 3) := by decide +kernel
theorem dX10_restore_9 : decode cX10_restore 9 = .ok (.aload_n 0, 1) := by decide +kernel
theorem dX10_restore_10 : decode cX10_restore 10 = .ok (.getfield 37, 3) := by decide +kernel
theorem dX10_restore_13 : decode cX10_restore 13 = .ok (.iload_n 1, 1) := by decide +kernel
theorem dX10_restore_14 : decode cX10_restore 14 = .ok (.baload, 1) := by decide +kernel
theorem dX10_restore_15 : decode cX10_restore 15 = .ok (.ifCond .ne 5, 3) := by decide +kernel
theorem dX10_restore_18 : decode cX10_restore 18 = .ok (.iconst 0, 1) := by decide +kernel
theorem dX10_restore_19 : decode cX10_restore 19 = .ok (.ireturn, 1) := by decide +kernel
theorem dX10_restore_20 : decode cX10_restore 20 = .ok (.aload_n 0, 1) := by decide +kernel
theorem dX10_restore_21 : decode cX10_restore 21 = .ok (.getfield 26, 3) := by decide +kernel
theorem dX10_restore_24 : decode cX10_restore 24 = .ok (.aload_n 0, 1) := by decide +kernel
theorem dX10_restore_25 : decode cX10_restore 25 = .ok (.getfield 33, 3) := by decide +kernel
theorem dX10_restore_28 : decode cX10_restore 28 = .ok (.iload_n 1, 1) := by decide +kernel
theorem dX10_restore_29 : decode cX10_restore 29 = .ok (.aaload, 1) := by decide +kernel
theorem dX10_restore_30 : decode cX10_restore 30 = .ok (.invokevirtual 341, 3) := by decide +kernel
theorem dX10_restore_33 : decode cX10_restore 33 = .ok (.aload_n 0, 1) := by decide +kernel
theorem dX10_restore_34 : decode cX10_restore 34 = .ok (.getfield 44, 3) := by decide +kernel
theorem dX10_restore_37 : decode cX10_restore 37 = .ok (.iconst 0, 1) := by decide +kernel
theorem dX10_restore_38 : decode cX10_restore 38 = .ok (.putfield 110, 3) := by decide +kernel
theorem dX10_restore_41 : decode cX10_restore 41 = .ok (.iconst 1, 1) := by decide +kernel
theorem dX10_restore_42 : decode cX10_restore 42 = .ok (.ireturn, 1) := by decide +kernel
theorem dX10_isKind_0 : decode cX10_isKind 0 = .ok (.iload_n 0, 1) := by decide +kernel
theorem dX10_isKind_1 : decode cX10_isKind 1 = .ok (.ifCond .eq 8, 3) := by decide +kernel
theorem dX10_isKind_4 : decode cX10_isKind 4 = .ok (.iload_n 0, 1) := by decide +kernel
theorem dX10_isKind_5 : decode cX10_isKind 5 = .ok (.iconst 1, 1) := by decide +kernel
theorem dX10_isKind_6 : decode cX10_isKind 6 = .ok (.if_icmp .ne 7, 3) := by decide +kernel
theorem dX10_isKind_9 : decode cX10_isKind 9 = .ok (.iconst 1, 1) := by decide +kernel
theorem dX10_isKind_10 : decode cX10_isKind 10 = .ok (.goto 4, 3) := by decide +kernel
theorem dX10_isKind_13 : decode cX10_isKind 13 = .ok (.iconst 0, 1) := by decide +kernel
theorem dX10_isKind_14 : decode cX10_isKind 14 = .ok (.ireturn, 1) := by decide +kernel
theorem dX10_isLogical_0 : decode cX10_isLogical 0 = .ok (.iload_n 0, 1) := by decide +kernel
theorem dX10_isLogical_1 : decode cX10_isLogical 1 = .ok (.ifCond .eq 8, 3) := by decide +kernel
theorem dX10_isLogical_4 : decode cX10_isLogical 4 = .ok (.iload_n 0, 1) := by decide +kernel
theorem dX10_isLogical_5 : decode cX10_isLogical 5 = .ok (.iconst 1, 1) := by decide +kernel
theorem dX10_isLogical_6 : decode cX10_isLogical 6 = .ok (.if_icmp .ne 7, 3) := by decide +kernel
theorem dX10_isLogical_9 : decode cX10_isLogical 9 = .ok (.iconst 1, 1) := by decide +kernel
theorem dX10_isLogical_10 : decode cX10_isLogical 10 = .ok (.goto 4, 3) := by decide +kernel
theorem dX10_isLogical_13 : decode cX10_isLogical 13 = .ok (.iconst 0, 1) := by decide +kernel
theorem dX10_isLogical_14 : decode cX10_isLogical 14 = .ok (.ireturn, 1) := by decide +kernel
theorem dX10_isFactor_0 : decode cX10_isFactor 0 = .ok (.iload_n 0, 1) := by decide +kernel
theorem dX10_isFactor_1 : decode cX10_isFactor 1 = .ok (.ifCond .lt 13, 3) := by decide +kernel
theorem dX10_isFactor_4 : decode cX10_isFactor 4 = .ok (.iload_n 0, 1) := by decide +kernel
theorem dX10_isFactor_5 : decode cX10_isFactor 5 = .ok (.bipush 99, 2) := by decide +kernel
theorem dX10_isFactor_7 : decode cX10_isFactor 7 = .ok (.if_icmp .gt 7, 3) := by decide +kernel
theorem dX10_isFactor_10 : decode cX10_isFactor 10 = .ok (.iconst 1, 1) := by decide +kernel
theorem dX10_isFactor_11 : decode cX10_isFactor 11 = .ok (.goto 4, 3) := by decide +kernel
theorem dX10_isFactor_14 : decode cX10_isFactor 14 = .ok (.iconst 0, 1) := by decide +kernel
theorem dX10_isFactor_15 : decode cX10_isFactor 15 = .ok (.ireturn, 1) := by decide +kernel
theorem dX10_isCheck_0 : decode cX10_isCheck 0 = .ok (.iload_n 1, 1) := by decide +kernel
theorem dX10_isCheck_1 : decode cX10_isCheck 1 = .ok (.invokestatic 181, 3) := by decide +kernel
theorem dX10_isCheck_4 : decode cX10_isCheck 4 = .ok (.ifCond .eq 25, 3) := by decide +kernel
theorem dX10_isCheck_7 : decode cX10_isCheck 7 = .ok (.iload_n 2, 1) := by decide +kernel
theorem dX10_isCheck_8 : decode cX10_isCheck 8 = .ok (.ifCond .lt 21, 3) := by decide +kernel
theorem dX10_isCheck_11 : decode cX10_isCheck 11 = .ok (.iload_n 2, 1) := by decide +kernel
theorem dX10_isCheck_12 : decode cX10_isCheck 12 = .ok (.aload_n 0, 1) := by decide +kernel
theorem dX10_isCheck_13 : decode cX10_isCheck 13 = .ok (.getfield 26, 3) := by decide +kernel
theorem dX10_isCheck_16 : decode cX10_isCheck 16 = .ok (.getfield 113, 3) := by decide +kernel
theorem dX10_isCheck_19 : decode cX10_isCheck 19 = .ok (.getfield 140, 3) := by decide +kernel
theorem dX10_isCheck_22 : decode cX10_isCheck 22 = .ok (.if_icmp .ge 7, 3) := by decide +kernel
theorem dX10_isCheck_25 : decode cX10_isCheck 25 = .ok (.iconst 1, 1) := by decide +kernel
theorem dX10_isCheck_26 : decode cX10_isCheck 26 = .ok (.goto 4, 3) := by decide +kernel
theorem dX10_isCheck_29 : decode cX10_isCheck 29 = .ok (.iconst 0, 1) := by decide +kernel
theorem dX10_isCheck_30 : decode cX10_isCheck 30 = .ok (.ireturn, 1) := by decide +kernel
theorem dX10_isRound_0 : decode cX10_isRound 0 = .ok (.iload_n 1, 1) := by decide +kernel
theorem dX10_isRound_1 : decode cX10_isRound 1 = .ok (.ifCond .lt 18, 3) := by decide +kernel
theorem dX10_isRound_4 : decode cX10_isRound 4 = .ok (.iload_n 1, 1) := by decide +kernel
theorem dX10_isRound_5 : decode cX10_isRound 5 = .ok (.aload_n 0, 1) := by decide +kernel
theorem dX10_isRound_6 : decode cX10_isRound 6 = .ok (.getfield 26, 3) := by decide +kernel
theorem dX10_isRound_9 : decode cX10_isRound 9 = .ok (.getfield 137, 3) := by decide +kernel
theorem dX10_isRound_12 : decode cX10_isRound 12 = .ok (.if_icmp .ge 7, 3) := by decide +kernel
theorem dX10_isRound_15 : decode cX10_isRound 15 = .ok (.iconst 1, 1) := by decide +kernel
theorem dX10_isRound_16 : decode cX10_isRound 16 = .ok (.goto 4, 3) := by decide +kernel
theorem dX10_isRound_19 : decode cX10_isRound 19 = .ok (.iconst 0, 1) := by decide +kernel
theorem dX10_isRound_20 : decode cX10_isRound 20 = .ok (.ireturn, 1) := by decide +kernel
theorem dX10_canBeDrawn_0 : decode cX10_canBeDrawn 0 = .ok (.iload_n 1, 1) := by decide +kernel
theorem dX10_canBeDrawn_1 : decode cX10_canBeDrawn 1 = .ok (.iconst 1, 1) := by decide +kernel
theorem dX10_canBeDrawn_2 : decode cX10_canBeDrawn 2 = .ok (.if_icmp .lt 17, 3) := by decide +kernel
theorem dX10_canBeDrawn_5 : decode cX10_canBeDrawn 5 = .ok (.iload_n 1, 1) := by decide +kernel
theorem dX10_canBeDrawn_6 : decode cX10_canBeDrawn 6 = .ok (.bipush 8, 2) := by decide +kernel
theorem dX10_canBeDrawn_8 : decode cX10_canBeDrawn 8 = .ok (.aload_n 0, 1) := by decide +kernel
theorem dX10_canBeDrawn_9 : decode cX10_canBeDrawn 9 = .ok (.getfield 26, 3) := by decide +kernel
theorem dX10_canBeDrawn_12 : decode cX10_canBeDrawn 12 = .ok (.getfield 137, 3) := by decide +kernel
theorem dX10_canBeDrawn_15 : decode cX10_canBeDrawn 15 = .ok (.isub, 1) := by decide +kernel
theorem dX10_canBeDrawn_16 : decode cX10_canBeDrawn 16 = .ok (.if_icmp .le 5, 3) := by decide +kernel
theorem dX10_canBeDrawn_19 : decode cX10_canBeDrawn 19 = .ok (.iconst 0, 1) := by decide +kernel
theorem dX10_canBeDrawn_20 : decode cX10_canBeDrawn 20 = .ok (.ireturn, 1) := by decide +kernel
theorem dX10_canBeDrawn_21 : decode cX10_canBeDrawn 21 = .ok (.iload_n 2, 1) := by decide +kernel
theorem dX10_canBeDrawn_22 : decode cX10_canBeDrawn 22 = .ok (.ifCond .lt 13, 3) := by decide +kernel
theorem dX10_canBeDrawn_25 : decode cX10_canBeDrawn 25 = .ok (.iload_n 2, 1) := by decide +kernel
theorem dX10_canBeDrawn_26 : decode cX10_canBeDrawn 26 = .ok (.bipush 21, 2) := by decide +kernel
theorem dX10_canBeDrawn_28 : decode cX10_canBeDrawn 28 = .ok (.if_icmp .gt 7, 3) := by decide +kernel
theorem dX10_canBeDrawn_31 : decode cX10_canBeDrawn 31 = .ok (.iconst 1, 1) := by decide +kernel
theorem dX10_canBeDrawn_32 : decode cX10_canBeDrawn 32 = .ok (.goto 4, 3) := by decide +kernel
theorem dX10_canBeDrawn_35 : decode cX10_canBeDrawn 35 = .ok (.iconst 0, 1) := by decide +kernel
theorem dX10_canBeDrawn_36 : decode cX10_canBeDrawn 36 = .ok (.ireturn, 1) := by decide +kernel
theorem dX10_findWay_0 : decode cX10_findWay 0 = .ok (.iload_n 1, 1) := by decide +kernel
theorem dX10_findWay_1 : decode cX10_findWay 1 = .ok (.invokestatic 181, 3) := by decide +kernel
theorem dX10_findWay_4 : decode cX10_findWay 4 = .ok (.ifCond .eq 8, 3) := by decide +kernel
theorem dX10_findWay_7 : decode cX10_findWay 7 = .ok (.iload_n 2, 1) := by decide +kernel
theorem dX10_findWay_8 : decode cX10_findWay 8 = .ok (.iload_n 3, 1) := by decide +kernel
theorem dX10_findWay_9 : decode cX10_findWay 9 = .ok (.if_icmp .ne 5, 3) := by decide +kernel
theorem dX10_findWay_12 : decode cX10_findWay 12 = .ok (.iconst 0, 1) := by decide +kernel
theorem dX10_findWay_13 : decode cX10_findWay 13 = .ok (.ireturn, 1) := by decide +kernel
theorem dX10_findWay_14 : decode cX10_findWay 14 = .ok (.aload_n 0, 1) := by decide +kernel
theorem dX10_findWay_15 : decode cX10_findWay 15 = .ok (.getfield 58, 3) := by decide +kernel
theorem dX10_findWay_18 : decode cX10_findWay 18 = .ok (.aload_n 0, 1) := by decide +kernel
theorem dX10_findWay_19 : decode cX10_findWay 19 = .ok (.getfield 26, 3) := by decide +kernel
theorem dX10_findWay_22 : decode cX10_findWay 22 = .ok (.iload_n 1, 1) := by decide +kernel
theorem dX10_findWay_23 : decode cX10_findWay 23 = .ok (.invokevirtual 191, 3) := by decide +kernel
theorem dX10_findWay_26 : decode cX10_findWay 26 = .ok (.aload_n 0, 1) := by decide +kernel
theorem dX10_findWay_27 : decode cX10_findWay 27 = .ok (.getfield 58, 3) := by decide +kernel
theorem dX10_findWay_30 : decode cX10_findWay 30 = .ok (.iload_n 2, 1) := by decide +kernel
theorem dX10_findWay_31 : decode cX10_findWay 31 = .ok (.invokevirtual 198, 3) := by decide +kernel
theorem dX10_findWay_34 : decode cX10_findWay 34 = .ok (.ifCond .eq 19, 3) := by decide +kernel
theorem dX10_findWay_37 : decode cX10_findWay 37 = .ok (.iload_n 3, 1) := by decide +kernel
theorem dX10_findWay_38 : decode cX10_findWay 38 = .ok (.iconst (-1), 1) := by decide +kernel
theorem dX10_findWay_39 : decode cX10_findWay 39 = .ok (.if_icmp .eq 16, 3) := by decide +kernel
theorem dX10_findWay_42 : decode cX10_findWay 42 = .ok (.aload_n 0, 1) := by decide +kernel
theorem dX10_findWay_43 : decode cX10_findWay 43 = .ok (.getfield 58, 3) := by decide +kernel
theorem dX10_findWay_46 : decode cX10_findWay 46 = .ok (.iload_n 3, 1) := by decide +kernel
theorem dX10_findWay_47 : decode cX10_findWay 47 = .ok (.invokevirtual 198, 3) := by decide +kernel
theorem dX10_findWay_50 : decode cX10_findWay 50 = .ok (.ifCond .ne 5, 3) := by decide +kernel
theorem dX10_findWay_53 : decode cX10_findWay 53 = .ok (.iconst 0, 1) := by decide +kernel
theorem dX10_findWay_54 : decode cX10_findWay 54 = .ok (.ireturn, 1) := by decide +kernel
theorem dX10_findWay_55 : decode cX10_findWay 55 = .ok (.aload_n 0, 1) := by decide +kernel
theorem dX10_findWay_56 : decode cX10_findWay 56 = .ok (.getfield 65, 3) := by decide +kernel
theorem dX10_findWay_59 : decode cX10_findWay 59 = .ok (.aload_n 0, 1) := by decide +kernel
theorem dX10_findWay_60 : decode cX10_findWay 60 = .ok (.getfield 58, 3) := by decide +kernel
theorem dX10_findWay_63 : decode cX10_findWay 63 = .ok (.aload_n 0, 1) := by decide +kernel
theorem dX10_findWay_64 : decode cX10_findWay 64 = .ok (.getfield 58, 3) := by decide +kernel
theorem dX10_findWay_67 : decode cX10_findWay 67 = .ok (.getfield 347, 3) := by decide +kernel
theorem dX10_findWay_70 : decode cX10_findWay 70 = .ok (.iload_n 2, 1) := by decide +kernel
theorem dX10_findWay_71 : decode cX10_findWay 71 = .ok (.iaload, 1) := by decide +kernel
theorem dX10_findWay_72 : decode cX10_findWay 72 = .ok (.iload_n 3, 1) := by decide +kernel
theorem dX10_findWay_73 : decode cX10_findWay 73 = .ok (.iconst (-1), 1) := by decide +kernel
theorem dX10_findWay_74 : decode cX10_findWay 74 = .ok (.if_icmp .ne 13, 3) := by decide +kernel
theorem dX10_findWay_77 : decode cX10_findWay 77 = .ok (.aload_n 0, 1) := by decide +kernel
theorem dX10_findWay_78 : decode cX10_findWay 78 = .ok (.getfield 58, 3) := by decide +kernel
theorem dX10_findWay_81 : decode cX10_findWay 81 = .ok (.getfield 276, 3) := by decide +kernel
theorem dX10_findWay_84 : decode cX10_findWay 84 = .ok (.goto 12, 3) := by decide +kernel
theorem dX10_findWay_87 : decode cX10_findWay 87 = .ok (.aload_n 0, 1) := by decide +kernel
theorem dX10_findWay_88 : decode cX10_findWay 88 = .ok (.getfield 58, 3) := by decide +kernel
theorem dX10_findWay_91 : decode cX10_findWay 91 = .ok (.getfield 347, 3) := by decide +kernel
theorem dX10_findWay_94 : decode cX10_findWay 94 = .ok (.iload_n 3, 1) := by decide +kernel
theorem dX10_findWay_95 : decode cX10_findWay 95 = .ok (.iaload, 1) := by decide +kernel
theorem dX10_findWay_96 : decode cX10_findWay 96 = .ok (.invokevirtual 350, 3) := by decide +kernel
theorem dX10_findWay_99 : decode cX10_findWay 99 = .ok (.iconst 1, 1) := by decide +kernel
theorem dX10_findWay_100 : decode cX10_findWay 100 = .ok (.ireturn, 1) := by decide +kernel
theorem dX10_paired_0 : decode cX10_paired 0 = .ok (.aload_n 0, 1) := by decide +kernel
theorem dX10_paired_1 : decode cX10_paired 1 = .ok (.getfield 58, 3) := by decide +kernel
theorem dX10_paired_4 : decode cX10_paired 4 = .ok (.aload_n 1, 1) := by decide +kernel
theorem dX10_paired_5 : decode cX10_paired 5 = .ok (.iload_n 2, 1) := by decide +kernel
theorem dX10_paired_6 : decode cX10_paired 6 = .ok (.invokevirtual 191, 3) := by decide +kernel
theorem dX10_paired_9 : decode cX10_paired 9 = .ok (.aload_n 0, 1) := by decide +kernel
theorem dX10_paired_10 : decode cX10_paired 10 = .ok (.getfield 58, 3) := by decide +kernel
theorem dX10_paired_13 : decode cX10_paired 13 = .ok (.getfield 195, 3) := by decide +kernel
theorem dX10_paired_16 : decode cX10_paired 16 = .ok (.bipush 14, 2) := by decide +kernel
theorem dX10_paired_18 : decode cX10_paired 18 = .ok (.if_icmp .le 5, 3) := by decide +kernel
theorem dX10_paired_21 : decode cX10_paired 21 = .ok (.iconst 0, 1) := by decide +kernel
theorem dX10_paired_22 : decode cX10_paired 22 = .ok (.ireturn, 1) := by decide +kernel
theorem dX10_paired_23 : decode cX10_paired 23 = .ok (.aload_n 0, 1) := by decide +kernel
theorem dX10_paired_24 : decode cX10_paired 24 = .ok (.getfield 72, 3) := by decide +kernel
theorem dX10_paired_27 : decode cX10_paired 27 = .ok (.aload_n 0, 1) := by decide +kernel
theorem dX10_paired_28 : decode cX10_paired 28 = .ok (.getfield 58, 3) := by decide +kernel
theorem dX10_paired_31 : decode cX10_paired 31 = .ok (.aload_n 0, 1) := by decide +kernel
theorem dX10_paired_32 : decode cX10_paired 32 = .ok (.getfield 65, 3) := by decide +kernel
theorem dX10_paired_35 : decode cX10_paired 35 = .ok (.invokevirtual 354, 3) := by decide +kernel
theorem dX10_paired_38 : decode cX10_paired 38 = .ok (.iconst 1, 1) := by decide +kernel
theorem dX10_paired_39 : decode cX10_paired 39 = .ok (.ireturn, 1) := by decide +kernel
theorem dX10_growAndPeel_0 : decode cX10_growAndPeel 0 = .ok (.aload_n 0, 1) := by decide +kernel
theorem dX10_growAndPeel_1 : decode cX10_growAndPeel 1 = .ok (.getfield 58, 3) := by decide +kernel
theorem dX10_growAndPeel_4 : decode cX10_growAndPeel 4 = .ok (.aload_n 1, 1) := by decide +kernel
theorem dX10_growAndPeel_5 : decode cX10_growAndPeel 5 = .ok (.iload_n 2, 1) := by decide +kernel
theorem dX10_growAndPeel_6 : decode cX10_growAndPeel 6 = .ok (.invokevirtual 191, 3) := by decide +kernel
theorem dX10_growAndPeel_9 : decode cX10_growAndPeel 9 = .ok (.aload_n 0, 1) := by decide +kernel
theorem dX10_growAndPeel_10 : decode cX10_growAndPeel 10 = .ok (.getfield 79, 3) := by decide +kernel
theorem dX10_growAndPeel_13 : decode cX10_growAndPeel 13 = .ok (.aload_n 0, 1) := by decide +kernel
theorem dX10_growAndPeel_14 : decode cX10_growAndPeel 14 = .ok (.getfield 58, 3) := by decide +kernel
theorem dX10_growAndPeel_17 : decode cX10_growAndPeel 17 = .ok (.invokevirtual 357, 3) := by decide +kernel
theorem dX10_growAndPeel_20 : decode cX10_growAndPeel 20 = .ok (.aload_n 0, 1) := by decide +kernel
theorem dX10_growAndPeel_21 : decode cX10_growAndPeel 21 = .ok (.getfield 79, 3) := by decide +kernel
theorem dX10_growAndPeel_24 : decode cX10_growAndPeel 24 = .ok (.aload_n 0, 1) := by decide +kernel
theorem dX10_growAndPeel_25 : decode cX10_growAndPeel 25 = .ok (.getfield 58, 3) := by decide +kernel
theorem dX10_growAndPeel_28 : decode cX10_growAndPeel 28 = .ok (.invokevirtual 361, 3) := by decide +kernel
theorem dX10_growAndPeel_31 : decode cX10_growAndPeel 31 = .ok (.aload_n 0, 1) := by decide +kernel
theorem dX10_growAndPeel_32 : decode cX10_growAndPeel 32 = .ok (.getfield 79, 3) := by decide +kernel
theorem dX10_growAndPeel_35 : decode cX10_growAndPeel 35 = .ok (.aload_n 0, 1) := by decide +kernel
theorem dX10_growAndPeel_36 : decode cX10_growAndPeel 36 = .ok (.getfield 58, 3) := by decide +kernel
theorem dX10_growAndPeel_39 : decode cX10_growAndPeel 39 = .ok (.invokevirtual 364, 3) := by decide +kernel
theorem dX10_growAndPeel_42 : decode cX10_growAndPeel 42 = .ok (.return_, 1) := by decide +kernel
theorem dX10_correctionOf_0 : decode cX10_correctionOf 0 = .ok (.iload_n 3, 1) := by decide +kernel
theorem dX10_correctionOf_1 : decode cX10_correctionOf 1 = .ok (.ifCond .ne 42, 3) := by decide +kernel
theorem dX10_correctionOf_4 : decode cX10_correctionOf 4 = .ok (.aload_n 0, 1) := by decide +kernel
theorem dX10_correctionOf_5 : decode cX10_correctionOf 5 = .ok (.aload_n 1, 1) := by decide +kernel
theorem dX10_correctionOf_6 : decode cX10_correctionOf 6 = .ok (.iload_n 2, 1) := by decide +kernel
theorem dX10_correctionOf_7 : decode cX10_correctionOf 7 = .ok (.invokevirtual 218, 3) := by decide +kernel
theorem dX10_correctionOf_10 : decode cX10_correctionOf 10 = .ok (.ifCond .eq 33, 3) := by decide +kernel
theorem dX10_correctionOf_13 : decode cX10_correctionOf 13 = .ok (.aload_n 0, 1) := by decide +kernel
theorem dX10_correctionOf_14 : decode cX10_correctionOf 14 = .ok (.getfield 72, 3) := by decide +kernel
theorem dX10_correctionOf_17 : decode cX10_correctionOf 17 = .ok (.aload_n 0, 1) := by decide +kernel
theorem dX10_correctionOf_18 : decode cX10_correctionOf 18 = .ok (.getfield 58, 3) := by decide +kernel
theorem dX10_correctionOf_21 : decode cX10_correctionOf 21 = .ok (.aload_n 0, 1) := by decide +kernel
theorem dX10_correctionOf_22 : decode cX10_correctionOf 22 = .ok (.getfield 65, 3) := by decide +kernel
theorem dX10_correctionOf_25 : decode cX10_correctionOf 25 = .ok (.invokevirtual 255, 3) := by decide +kernel
theorem dX10_correctionOf_28 : decode cX10_correctionOf 28 = .ok (.aload_n 0, 1) := by decide +kernel
theorem dX10_correctionOf_29 : decode cX10_correctionOf 29 = .ok (.getfield 58, 3) := by decide +kernel
theorem dX10_correctionOf_32 : decode cX10_correctionOf 32 = .ok (.aload_n 0, 1) := by decide +kernel
theorem dX10_correctionOf_33 : decode cX10_correctionOf 33 = .ok (.getfield 72, 3) := by decide +kernel
theorem dX10_correctionOf_36 : decode cX10_correctionOf 36 = .ok (.getfield 259, 3) := by decide +kernel
theorem dX10_correctionOf_39 : decode cX10_correctionOf 39 = .ok (.invokevirtual 367, 3) := by decide +kernel
theorem dX10_correctionOf_42 : decode cX10_correctionOf 42 = .ok (.ireturn, 1) := by decide +kernel
theorem dX10_correctionOf_43 : decode cX10_correctionOf 43 = .ok (.iload_n 3, 1) := by decide +kernel
theorem dX10_correctionOf_44 : decode cX10_correctionOf 44 = .ok (.iconst 1, 1) := by decide +kernel
theorem dX10_correctionOf_45 : decode cX10_correctionOf 45 = .ok (.if_icmp .ne 24, 3) := by decide +kernel
theorem dX10_correctionOf_48 : decode cX10_correctionOf 48 = .ok (.aload_n 0, 1) := by decide +kernel
theorem dX10_correctionOf_49 : decode cX10_correctionOf 49 = .ok (.aload_n 1, 1) := by decide +kernel
theorem dX10_correctionOf_50 : decode cX10_correctionOf 50 = .ok (.iload_n 2, 1) := by decide +kernel
theorem dX10_correctionOf_51 : decode cX10_correctionOf 51 = .ok (.invokevirtual 235, 3) := by decide +kernel
theorem dX10_correctionOf_54 : decode cX10_correctionOf 54 = .ok (.aload_n 0, 1) := by decide +kernel
theorem dX10_correctionOf_55 : decode cX10_correctionOf 55 = .ok (.getfield 58, 3) := by decide +kernel
theorem dX10_correctionOf_58 : decode cX10_correctionOf 58 = .ok (.aload_n 0, 1) := by decide +kernel
theorem dX10_correctionOf_59 : decode cX10_correctionOf 59 = .ok (.getfield 79, 3) := by decide +kernel
theorem dX10_correctionOf_62 : decode cX10_correctionOf 62 = .ok (.getfield 266, 3) := by decide +kernel
theorem dX10_correctionOf_65 : decode cX10_correctionOf 65 = .ok (.invokevirtual 367, 3) := by decide +kernel
theorem dX10_correctionOf_68 : decode cX10_correctionOf 68 = .ok (.ireturn, 1) := by decide +kernel
theorem dX10_correctionOf_69 : decode cX10_correctionOf 69 = .ok (.iload_n 3, 1) := by decide +kernel
theorem dX10_correctionOf_70 : decode cX10_correctionOf 70 = .ok (.iconst 2, 1) := by decide +kernel
theorem dX10_correctionOf_71 : decode cX10_correctionOf 71 = .ok (.if_icmp .ne 13, 3) := by decide +kernel
theorem dX10_correctionOf_74 : decode cX10_correctionOf 74 = .ok (.aload_n 0, 1) := by decide +kernel
theorem dX10_correctionOf_75 : decode cX10_correctionOf 75 = .ok (.getfield 86, 3) := by decide +kernel
theorem dX10_correctionOf_78 : decode cX10_correctionOf 78 = .ok (.aload_n 1, 1) := by decide +kernel
theorem dX10_correctionOf_79 : decode cX10_correctionOf 79 = .ok (.iload_n 2, 1) := by decide +kernel
theorem dX10_correctionOf_80 : decode cX10_correctionOf 80 = .ok (.invokevirtual 371, 3) := by decide +kernel
theorem dX10_correctionOf_83 : decode cX10_correctionOf 83 = .ok (.ireturn, 1) := by decide +kernel
theorem dX10_correctionOf_84 : decode cX10_correctionOf 84 = .ok (.iconst (-1), 1) := by decide +kernel
theorem dX10_correctionOf_85 : decode cX10_correctionOf 85 = .ok (.ireturn, 1) := by decide +kernel
theorem dX10_resultOf_0 : decode cX10_resultOf 0 = .ok (.aload_n 0, 1) := by decide +kernel
theorem dX10_resultOf_1 : decode cX10_resultOf 1 = .ok (.aload_n 1, 1) := by decide +kernel
theorem dX10_resultOf_2 : decode cX10_resultOf 2 = .ok (.iload_n 2, 1) := by decide +kernel
theorem dX10_resultOf_3 : decode cX10_resultOf 3 = .ok (.iload_n 3, 1) := by decide +kernel
theorem dX10_resultOf_4 : decode cX10_resultOf 4 = .ok (.invokevirtual 281, 3) := by decide +kernel
theorem dX10_resultOf_7 : decode cX10_resultOf 7 = .ok (.istore 4, 2) := by decide +kernel
theorem dX10_resultOf_9 : decode cX10_resultOf 9 = .ok (.iload 4, 2) := by decide +kernel
theorem dX10_resultOf_11 : decode cX10_resultOf 11 = .ok (.iconst (-1), 1) := by decide +kernel
theorem dX10_resultOf_12 : decode cX10_resultOf 12 = .ok (.if_icmp .ne 5, 3) := by decide +kernel
theorem dX10_resultOf_15 : decode cX10_resultOf 15 = .ok (.iconst (-1), 1) := by decide +kernel
theorem dX10_resultOf_16 : decode cX10_resultOf 16 = .ok (.ireturn, 1) := by decide +kernel
theorem dX10_resultOf_17 : decode cX10_resultOf 17 = .ok (.aload_n 1, 1) := by decide +kernel
theorem dX10_resultOf_18 : decode cX10_resultOf 18 = .ok (.getfield 113, 3) := by decide +kernel
theorem dX10_resultOf_21 : decode cX10_resultOf 21 = .ok (.iload_n 2, 1) := by decide +kernel
theorem dX10_resultOf_22 : decode cX10_resultOf 22 = .ok (.aload_n 1, 1) := by decide +kernel
theorem dX10_resultOf_23 : decode cX10_resultOf 23 = .ok (.getfield 143, 3) := by decide +kernel
theorem dX10_resultOf_26 : decode cX10_resultOf 26 = .ok (.iload_n 2, 1) := by decide +kernel
theorem dX10_resultOf_27 : decode cX10_resultOf 27 = .ok (.iaload, 1) := by decide +kernel
theorem dX10_resultOf_28 : decode cX10_resultOf 28 = .ok (.iload 4, 2) := by decide +kernel
theorem dX10_resultOf_30 : decode cX10_resultOf 30 = .ok (.ixor, 1) := by decide +kernel
theorem dX10_resultOf_31 : decode cX10_resultOf 31 = .ok (.invokevirtual 316, 3) := by decide +kernel
theorem dX10_resultOf_34 : decode cX10_resultOf 34 = .ok (.ireturn, 1) := by decide +kernel
theorem dX11_thrown_0 : decode cX11_thrown 0 = .ok (.aload_n 0, 1) := by decide +kernel
theorem dX11_thrown_1 : decode cX11_thrown 1 = .ok (.getfield 1, 3) := by decide +kernel
theorem dX11_thrown_4 : decode cX11_thrown 4 = .ok (.ireturn, 1) := by decide +kernel
theorem dX11_throwsIf_0 : decode cX11_throwsIf 0 = .ok (.aload_n 0, 1) := by decide +kernel
theorem dX11_throwsIf_1 : decode cX11_throwsIf 1 = .ok (.iload_n 1, 1) := by decide +kernel
theorem dX11_throwsIf_2 : decode cX11_throwsIf 2 = .ok (.ifCond .eq 7, 3) := by decide +kernel
theorem dX11_throwsIf_5 : decode cX11_throwsIf 5 = .ok (.iconst 1, 1) := by decide +kernel
theorem dX11_throwsIf_6 : decode cX11_throwsIf 6 = .ok (.goto 4, 3) := by decide +kernel
theorem dX11_throwsIf_9 : decode cX11_throwsIf 9 = .ok (.iconst 0, 1) := by decide +kernel
theorem dX11_throwsIf_10 : decode cX11_throwsIf 10 = .ok (.putfield 1, 3) := by decide +kernel
theorem dX11_throwsIf_13 : decode cX11_throwsIf 13 = .ok (.iload_n 1, 1) := by decide +kernel
theorem dX11_throwsIf_14 : decode cX11_throwsIf 14 = .ok (.ireturn, 1) := by decide +kernel
theorem dX11_init_0 : decode cX11_init 0 = .ok (.aload_n 0, 1) := by decide +kernel
theorem dX11_init_1 : decode cX11_init 1 = .ok (.invokespecial 7, 3) := by decide +kernel
theorem dX11_init_4 : decode cX11_init 4 = .ok (.aload_n 0, 1) := by decide +kernel
theorem dX11_init_5 : decode cX11_init 5 = .ok (.bipush 71, 2) := by decide +kernel
theorem dX11_init_7 : decode cX11_init 7 = .ok (.newarray .int, 2) := by decide +kernel
theorem dX11_init_9 : decode cX11_init 9 = .ok (.putfield 13, 3) := by decide +kernel
theorem dX11_init_12 : decode cX11_init 12 = .ok (.aload_n 0, 1) := by decide +kernel
theorem dX11_init_13 : decode cX11_init 13 = .ok (.sipush 142, 3) := by decide +kernel
theorem dX11_init_16 : decode cX11_init 16 = .ok (.newarray .int, 2) := by decide +kernel
theorem dX11_init_18 : decode cX11_init 18 = .ok (.putfield 17, 3) := by decide +kernel
theorem dX11_init_21 : decode cX11_init 21 = .ok (.aload_n 0, 1) := by decide +kernel
theorem dX11_init_22 : decode cX11_init 22 = .ok (.sipush 568, 3) := by decide +kernel
theorem dX11_init_25 : decode cX11_init 25 = .ok (.newarray .int, 2) := by decide +kernel
theorem dX11_init_27 : decode cX11_init 27 = .ok (.putfield 20, 3) := by decide +kernel
theorem dX11_init_30 : decode cX11_init 30 = .ok (.aload_n 0, 1) := by decide +kernel
theorem dX11_init_31 : decode cX11_init 31 = .ok (.bipush 71, 2) := by decide +kernel
theorem dX11_init_33 : decode cX11_init 33 = .ok (.newarray .int, 2) := by decide +kernel
theorem dX11_init_35 : decode cX11_init 35 = .ok (.putfield 23, 3) := by decide +kernel
theorem dX11_init_38 : decode cX11_init 38 = .ok (.aload_n 0, 1) := by decide +kernel
theorem dX11_init_39 : decode cX11_init 39 = .ok (.iconst 2, 1) := by decide +kernel
theorem dX11_init_40 : decode cX11_init 40 = .ok (.newarray .boolean, 2) := by decide +kernel
theorem dX11_init_42 : decode cX11_init 42 = .ok (.putfield 26, 3) := by decide +kernel
theorem dX11_init_45 : decode cX11_init 45 = .ok (.aload_n 0, 1) := by decide +kernel
theorem dX11_init_46 : decode cX11_init 46 = .ok (.sipush 240, 3) := by decide +kernel
theorem dX11_init_49 : decode cX11_init 49 = .ok (.newarray .byte, 2) := by decide +kernel
theorem dX11_init_51 : decode cX11_init 51 = .ok (.putfield 30, 3) := by decide +kernel
theorem dX11_init_54 : decode cX11_init 54 = .ok (.aload_n 0, 1) := by decide +kernel
theorem dX11_init_55 : decode cX11_init 55 = .ok (.bipush 24, 2) := by decide +kernel
theorem dX11_init_57 : decode cX11_init 57 = .ok (.newarray .int, 2) := by decide +kernel
theorem dX11_init_59 : decode cX11_init 59 = .ok (.putfield 34, 3) := by decide +kernel
theorem dX11_init_62 : decode cX11_init 62 = .ok (.aload_n 0, 1) := by decide +kernel
theorem dX11_init_63 : decode cX11_init 63 = .ok (.bipush 24, 2) := by decide +kernel
theorem dX11_init_65 : decode cX11_init 65 = .ok (.newarray .int, 2) := by decide +kernel
theorem dX11_init_67 : decode cX11_init 67 = .ok (.putfield 37, 3) := by decide +kernel
theorem dX11_init_70 : decode cX11_init 70 = .ok (.aload_n 0, 1) := by decide +kernel
theorem dX11_init_71 : decode cX11_init 71 = .ok (.bipush 24, 2) := by decide +kernel
theorem dX11_init_73 : decode cX11_init 73 = .ok (.newarray .int, 2) := by decide +kernel
theorem dX11_init_75 : decode cX11_init 75 = .ok (.putfield 40, 3) := by decide +kernel
theorem dX11_init_78 : decode cX11_init 78 = .ok (.aload_n 0, 1) := by decide +kernel
theorem dX11_init_79 : decode cX11_init 79 = .ok (.bipush 50, 2) := by decide +kernel
theorem dX11_init_81 : decode cX11_init 81 = .ok (.newarray .int, 2) := by decide +kernel
theorem dX11_init_83 : decode cX11_init 83 = .ok (.putfield 43, 3) := by decide +kernel
theorem dX11_init_86 : decode cX11_init 86 = .ok (.aload_n 0, 1) := by decide +kernel
theorem dX11_init_87 : decode cX11_init 87 = .ok (.sipush 128, 3) := by decide +kernel
theorem dX11_init_90 : decode cX11_init 90 = .ok (.newarray .int, 2) := by decide +kernel
theorem dX11_init_92 : decode cX11_init 92 = .ok (.putfield 46, 3) := by decide +kernel
theorem dX11_init_95 : decode cX11_init 95 = .ok (.aload_n 0, 1) := by decide +kernel
theorem dX11_init_96 : decode cX11_init 96 = .ok (.iconst 2, 1) := by decide +kernel
theorem dX11_init_97 : decode cX11_init 97 = .ok (.newarray .int, 2) := by decide +kernel
theorem dX11_init_99 : decode cX11_init 99 = .ok (.putfield 49, 3) := by decide +kernel
theorem dX11_init_102 : decode cX11_init 102 = .ok (.aload_n 0, 1) := by decide +kernel
theorem dX11_init_103 : decode cX11_init 103 = .ok (.iconst 2, 1) := by decide +kernel
theorem dX11_init_104 : decode cX11_init 104 = .ok (.newarray .int, 2) := by decide +kernel
theorem dX11_init_106 : decode cX11_init 106 = .ok (.putfield 52, 3) := by decide +kernel
theorem dX11_init_109 : decode cX11_init 109 = .ok (.aload_n 0, 1) := by decide +kernel
theorem dX11_init_110 : decode cX11_init 110 = .ok (.iconst 2, 1) := by decide +kernel
theorem dX11_init_111 : decode cX11_init 111 = .ok (.newarray .int, 2) := by decide +kernel
theorem dX11_init_113 : decode cX11_init 113 = .ok (.putfield 55, 3) := by decide +kernel
theorem dX11_init_116 : decode cX11_init 116 = .ok (.aload_n 0, 1) := by decide +kernel
theorem dX11_init_117 : decode cX11_init 117 = .ok (.sipush 321, 3) := by decide +kernel
theorem dX11_init_120 : decode cX11_init 120 = .ok (.newarray .int, 2) := by decide +kernel
theorem dX11_init_122 : decode cX11_init 122 = .ok (.putfield 58, 3) := by decide +kernel
theorem dX11_init_125 : decode cX11_init 125 = .ok (.aload_n 0, 1) := by decide +kernel
theorem dX11_init_126 : decode cX11_init 126 = .ok (.sipush 321, 3) := by decide +kernel
theorem dX11_init_129 : decode cX11_init 129 = .ok (.newarray .int, 2) := by decide +kernel
theorem dX11_init_131 : decode cX11_init 131 = .ok (.putfield 61, 3) := by decide +kernel
theorem dX11_init_134 : decode cX11_init 134 = .ok (.aload_n 0, 1) := by decide +kernel
theorem dX11_init_135 : decode cX11_init 135 = .ok (.sipush 321, 3) := by decide +kernel
theorem dX11_init_138 : decode cX11_init 138 = .ok (.newarray .int, 2) := by decide +kernel
theorem dX11_init_140 : decode cX11_init 140 = .ok (.putfield 64, 3) := by decide +kernel
theorem dX11_init_143 : decode cX11_init 143 = .ok (.aload_n 0, 1) := by decide +kernel
theorem dX11_init_144 : decode cX11_init 144 = .ok (.bipush 109, 2) := by decide +kernel
theorem dX11_init_146 : decode cX11_init 146 = .ok (.newarray .int, 2) := by decide +kernel
theorem dX11_init_148 : decode cX11_init 148 = .ok (.putfield 67, 3) := by decide +kernel
theorem dX11_init_151 : decode cX11_init 151 = .ok (.aload_n 0, 1) := by decide +kernel
theorem dX11_init_152 : decode cX11_init 152 = .ok (.bipush 108, 2) := by decide +kernel
theorem dX11_init_154 : decode cX11_init 154 = .ok (.newarray .int, 2) := by decide +kernel
theorem dX11_init_156 : decode cX11_init 156 = .ok (.putfield 70, 3) := by decide +kernel
theorem dX11_init_159 : decode cX11_init 159 = .ok (.aload_n 0, 1) := by decide +kernel
theorem dX11_init_160 : decode cX11_init 160 = .ok (.sipush 321, 3) := by decide +kernel
theorem dX11_init_163 : decode cX11_init 163 = .ok (.newarray .int, 2) := by decide +kernel
theorem dX11_init_165 : decode cX11_init 165 = .ok (.putfield 73, 3) := by decide +kernel
theorem dX11_init_168 : decode cX11_init 168 = .ok (.aload_n 0, 1) := by decide +kernel
theorem dX11_init_169 : decode cX11_init 169 = .ok (.sipush 16384, 3) := by decide +kernel
theorem dX11_init_172 : decode cX11_init 172 = .ok (.newarray .int, 2) := by decide +kernel
theorem dX11_init_174 : decode cX11_init 174 = .ok (.putfield 76, 3) := by decide +kernel
theorem dX11_init_177 : decode cX11_init 177 = .ok (.aload_n 0, 1) := by decide +kernel
theorem dX11_init_178 : decode cX11_init 178 = .ok (.sipush 16384, 3) := by decide +kernel
theorem dX11_init_181 : decode cX11_init 181 = .ok (.newarray .int, 2) := by decide +kernel
theorem dX11_init_183 : decode cX11_init 183 = .ok (.putfield 79, 3) := by decide +kernel
theorem dX11_init_186 : decode cX11_init 186 = .ok (.aload_n 0, 1) := by decide +kernel
theorem dX11_init_187 : decode cX11_init 187 = .ok (.sipush 225, 3) := by decide +kernel
theorem dX11_init_190 : decode cX11_init 190 = .ok (.newarray .int, 2) := by decide +kernel
theorem dX11_init_192 : decode cX11_init 192 = .ok (.putfield 82, 3) := by decide +kernel
theorem dX11_init_195 : decode cX11_init 195 = .ok (.aload_n 0, 1) := by decide +kernel
theorem dX11_init_196 : decode cX11_init 196 = .ok (.bipush 14, 2) := by decide +kernel
theorem dX11_init_198 : decode cX11_init 198 = .ok (.newarray .int, 2) := by decide +kernel
theorem dX11_init_200 : decode cX11_init 200 = .ok (.putfield 85, 3) := by decide +kernel
theorem dX11_init_203 : decode cX11_init 203 = .ok (.aload_n 0, 1) := by decide +kernel
theorem dX11_init_204 : decode cX11_init 204 = .ok (.bipush 14, 2) := by decide +kernel
theorem dX11_init_206 : decode cX11_init 206 = .ok (.newarray .int, 2) := by decide +kernel
theorem dX11_init_208 : decode cX11_init 208 = .ok (.putfield 88, 3) := by decide +kernel
theorem dX11_init_211 : decode cX11_init 211 = .ok (.aload_n 0, 1) := by decide +kernel
theorem dX11_init_212 : decode cX11_init 212 = .ok (.sipush 321, 3) := by decide +kernel
theorem dX11_init_215 : decode cX11_init 215 = .ok (.newarray .int, 2) := by decide +kernel
theorem dX11_init_217 : decode cX11_init 217 = .ok (.putfield 91, 3) := by decide +kernel
theorem dX11_init_220 : decode cX11_init 220 = .ok (.aload_n 0, 1) := by decide +kernel
theorem dX11_init_221 : decode cX11_init 221 = .ok (.bipush 109, 2) := by decide +kernel
theorem dX11_init_223 : decode cX11_init 223 = .ok (.newarray .int, 2) := by decide +kernel
theorem dX11_init_225 : decode cX11_init 225 = .ok (.putfield 94, 3) := by decide +kernel
theorem dX11_init_228 : decode cX11_init 228 = .ok (.aload_n 0, 1) := by decide +kernel
theorem dX11_init_229 : decode cX11_init 229 = .ok (.bipush 109, 2) := by decide +kernel
theorem dX11_init_231 : decode cX11_init 231 = .ok (.newarray .int, 2) := by decide +kernel
theorem dX11_init_233 : decode cX11_init 233 = .ok (.putfield 97, 3) := by decide +kernel
theorem dX11_init_236 : decode cX11_init 236 = .ok (.aload_n 0, 1) := by decide +kernel
theorem dX11_init_237 : decode cX11_init 237 = .ok (.bipush 109, 2) := by decide +kernel
theorem dX11_init_239 : decode cX11_init 239 = .ok (.newarray .int, 2) := by decide +kernel
theorem dX11_init_241 : decode cX11_init 241 = .ok (.putfield 100, 3) := by decide +kernel
theorem dX11_init_244 : decode cX11_init 244 = .ok (.aload_n 0, 1) := by decide +kernel
theorem dX11_init_245 : decode cX11_init 245 = .ok (.bipush 109, 2) := by decide +kernel
theorem dX11_init_247 : decode cX11_init 247 = .ok (.newarray .int, 2) := by decide +kernel
theorem dX11_init_249 : decode cX11_init 249 = .ok (.putfield 103, 3) := by decide +kernel
theorem dX11_init_252 : decode cX11_init 252 = .ok (.aload_n 0, 1) := by decide +kernel
theorem dX11_init_253 : decode cX11_init 253 = .ok (.sipush 321, 3) := by decide +kernel
theorem dX11_init_256 : decode cX11_init 256 = .ok (.newarray .boolean, 2) := by decide +kernel
theorem dX11_init_258 : decode cX11_init 258 = .ok (.putfield 106, 3) := by decide +kernel
theorem dX11_init_261 : decode cX11_init 261 = .ok (.aload_n 0, 1) := by decide +kernel
theorem dX11_init_262 : decode cX11_init 262 = .ok (.bipush 109, 2) := by decide +kernel
theorem dX11_init_264 : decode cX11_init 264 = .ok (.newarray .boolean, 2) := by decide +kernel
theorem dX11_init_266 : decode cX11_init 266 = .ok (.putfield 109, 3) := by decide +kernel
theorem dX11_init_269 : decode cX11_init 269 = .ok (.aload_n 0, 1) := by decide +kernel
theorem dX11_init_270 : decode cX11_init 270 = .ok (.iconst 4, 1) := by decide +kernel
theorem dX11_init_271 : decode cX11_init 271 = .ok (.newarray .int, 2) := by decide +kernel
theorem dX11_init_273 : decode cX11_init 273 = .ok (.putfield 112, 3) := by decide +kernel
theorem dX11_init_276 : decode cX11_init 276 = .ok (.aload_n 0, 1) := by decide +kernel
theorem dX11_init_277 : decode cX11_init 277 = .ok (.bipush 109, 2) := by decide +kernel
theorem dX11_init_279 : decode cX11_init 279 = .ok (.newarray .int, 2) := by decide +kernel
theorem dX11_init_281 : decode cX11_init 281 = .ok (.putfield 115, 3) := by decide +kernel
theorem dX11_init_284 : decode cX11_init 284 = .ok (.aload_n 0, 1) := by decide +kernel
theorem dX11_init_285 : decode cX11_init 285 = .ok (.sipush 321, 3) := by decide +kernel
theorem dX11_init_288 : decode cX11_init 288 = .ok (.newarray .boolean, 2) := by decide +kernel
theorem dX11_init_290 : decode cX11_init 290 = .ok (.putfield 118, 3) := by decide +kernel
theorem dX11_init_293 : decode cX11_init 293 = .ok (.aload_n 0, 1) := by decide +kernel
theorem dX11_init_294 : decode cX11_init 294 = .ok (.bipush 52, 2) := by decide +kernel
theorem dX11_init_296 : decode cX11_init 296 = .ok (.newarray .int, 2) := by decide +kernel
theorem dX11_init_298 : decode cX11_init 298 = .ok (.putfield 121, 3) := by decide +kernel
theorem dX11_init_301 : decode cX11_init 301 = .ok (.aload_n 0, 1) := by decide +kernel
theorem dX11_init_302 : decode cX11_init 302 = .ok (.bipush 11, 2) := by decide +kernel
theorem dX11_init_304 : decode cX11_init 304 = .ok (.newarray .byte, 2) := by decide +kernel
theorem dX11_init_306 : decode cX11_init 306 = .ok (.putfield 124, 3) := by decide +kernel
theorem dX11_init_309 : decode cX11_init 309 = .ok (.aload_n 0, 1) := by decide +kernel
theorem dX11_init_310 : decode cX11_init 310 = .ok (.iconst 3, 1) := by decide +kernel
theorem dX11_init_311 : decode cX11_init 311 = .ok (.invokevirtual 127, 3) := by decide +kernel
theorem dX11_init_314 : decode cX11_init 314 = .ok (.return_, 1) := by decide +kernel
theorem dX11_begins_0 : decode cX11_begins 0 = .ok (.iconst 0, 1) := by decide +kernel
theorem dX11_begins_1 : decode cX11_begins 1 = .ok (.istore_n 2, 1) := by decide +kernel
theorem dX11_begins_2 : decode cX11_begins 2 = .ok (.iload_n 2, 1) := by decide +kernel
theorem dX11_begins_3 : decode cX11_begins 3 = .ok (.bipush 71, 2) := by decide +kernel
theorem dX11_begins_5 : decode cX11_begins 5 = .ok (.if_icmp .ge 26, 3) := by decide +kernel
theorem dX11_begins_8 : decode cX11_begins 8 = .ok (.aload_n 0, 1) := by decide +kernel
theorem dX11_begins_9 : decode cX11_begins 9 = .ok (.getfield 13, 3) := by decide +kernel
theorem dX11_begins_12 : decode cX11_begins 12 = .ok (.iload_n 2, 1) := by decide +kernel
theorem dX11_begins_13 : decode cX11_begins 13 = .ok (.iload_n 2, 1) := by decide +kernel
theorem dX11_begins_14 : decode cX11_begins 14 = .ok (.bipush 22, 2) := by decide +kernel
theorem dX11_begins_16 : decode cX11_begins 16 = .ok (.if_icmp .ge 7, 3) := by decide +kernel
theorem dX11_begins_19 : decode cX11_begins 19 = .ok (.iconst 0, 1) := by decide +kernel
theorem dX11_begins_20 : decode cX11_begins 20 = .ok (.goto 4, 3) := by decide +kernel
theorem dX11_begins_23 : decode cX11_begins 23 = .ok (.iconst 1, 1) := by decide +kernel
theorem dX11_begins_24 : decode cX11_begins 24 = .ok (.iastore, 1) := by decide +kernel
theorem dX11_begins_25 : decode cX11_begins 25 = .ok (.iinc 2 1, 3) := by decide +kernel
theorem dX11_begins_28 : decode cX11_begins 28 = .ok (.goto (-26), 3) := by decide +kernel
theorem dX11_begins_31 : decode cX11_begins 31 = .ok (.aload_n 0, 1) := by decide +kernel
theorem dX11_begins_32 : decode cX11_begins 32 = .ok (.getfield 13, 3) := by decide +kernel
theorem dX11_begins_35 : decode cX11_begins 35 = .ok (.iconst 0, 1) := by decide +kernel
theorem dX11_begins_36 : decode cX11_begins 36 = .ok (.iload_n 1, 1) := by decide +kernel
theorem dX11_begins_37 : decode cX11_begins 37 = .ok (.iastore, 1) := by decide +kernel
theorem dX11_begins_38 : decode cX11_begins 38 = .ok (.aload_n 0, 1) := by decide +kernel
theorem dX11_begins_39 : decode cX11_begins 39 = .ok (.invokevirtual 131, 3) := by decide +kernel
theorem dX11_begins_42 : decode cX11_begins 42 = .ok (.return_, 1) := by decide +kernel
theorem dX11_feed_0 : decode cX11_feed 0 = .ok (.aload_n 0, 1) := by decide +kernel
theorem dX11_feed_1 : decode cX11_feed 1 = .ok (.iconst 0, 1) := by decide +kernel
theorem dX11_feed_2 : decode cX11_feed 2 = .ok (.putfield 1, 3) := by decide +kernel
theorem dX11_feed_5 : decode cX11_feed 5 = .ok (.aload_n 0, 1) := by decide +kernel
theorem dX11_feed_6 : decode cX11_feed 6 = .ok (.getfield 134, 3) := by decide +kernel
theorem dX11_feed_9 : decode cX11_feed 9 = .ok (.bipush 20, 2) := by decide +kernel
theorem dX11_feed_11 : decode cX11_feed 11 = .ok (.iadd, 1) := by decide +kernel
theorem dX11_feed_12 : decode cX11_feed 12 = .ok (.sipush 240, 3) := by decide +kernel
theorem dX11_feed_15 : decode cX11_feed 15 = .ok (.if_icmp .le 5, 3) := by decide +kernel
theorem dX11_feed_18 : decode cX11_feed 18 = .ok (.iconst (-1), 1) := by decide +kernel
theorem dX11_feed_19 : decode cX11_feed 19 = .ok (.ireturn, 1) := by decide +kernel
theorem dX11_feed_20 : decode cX11_feed 20 = .ok (.aload_n 0, 1) := by decide +kernel
theorem dX11_feed_21 : decode cX11_feed 21 = .ok (.iload_n 1, 1) := by decide +kernel
theorem dX11_feed_22 : decode cX11_feed 22 = .ok (.invokevirtual 137, 3) := by decide +kernel
theorem dX11_feed_25 : decode cX11_feed 25 = .ok (.aload_n 0, 1) := by decide +kernel
theorem dX11_feed_26 : decode cX11_feed 26 = .ok (.iload_n 2, 1) := by decide +kernel
theorem dX11_feed_27 : decode cX11_feed 27 = .ok (.invokevirtual 137, 3) := by decide +kernel
theorem dX11_feed_30 : decode cX11_feed 30 = .ok (.aload_n 0, 1) := by decide +kernel
theorem dX11_feed_31 : decode cX11_feed 31 = .ok (.iload_n 3, 1) := by decide +kernel
theorem dX11_feed_32 : decode cX11_feed 32 = .ok (.invokevirtual 137, 3) := by decide +kernel
theorem dX11_feed_35 : decode cX11_feed 35 = .ok (.aload_n 0, 1) := by decide +kernel
theorem dX11_feed_36 : decode cX11_feed 36 = .ok (.iload 4, 2) := by decide +kernel
theorem dX11_feed_38 : decode cX11_feed 38 = .ok (.invokevirtual 137, 3) := by decide +kernel
theorem dX11_feed_41 : decode cX11_feed 41 = .ok (.aload_n 0, 1) := by decide +kernel
theorem dX11_feed_42 : decode cX11_feed 42 = .ok (.iload 5, 2) := by decide +kernel
theorem dX11_feed_44 : decode cX11_feed 44 = .ok (.invokevirtual 137, 3) := by decide +kernel
theorem dX11_feed_47 : decode cX11_feed 47 = .ok (.aload_n 0, 1) := by decide +kernel
theorem dX11_feed_48 : decode cX11_feed 48 = .ok (.getfield 134, 3) := by decide +kernel
theorem dX11_feed_51 : decode cX11_feed 51 = .ok (.ireturn, 1) := by decide +kernel
theorem dX11_four_0 : decode cX11_four 0 = .ok (.bipush 24, 2) := by decide +kernel
theorem dX11_four_2 : decode cX11_four 2 = .ok (.istore_n 2, 1) := by decide +kernel
theorem dX11_four_3 : decode cX11_four 3 = .ok (.iload_n 2, 1) := by decide +kernel
theorem dX11_four_4 : decode cX11_four 4 = .ok (.ifCond .lt 32, 3) := by decide +kernel
theorem dX11_four_7 : decode cX11_four 7 = .ok (.aload_n 0, 1) := by decide +kernel
theorem dX11_four_8 : decode cX11_four 8 = .ok (.getfield 30, 3) := by decide +kernel
theorem dX11_four_11 : decode cX11_four 11 = .ok (.aload_n 0, 1) := by decide +kernel
theorem dX11_four_12 : decode cX11_four 12 = .ok (.getfield 134, 3) := by decide +kernel
theorem dX11_four_15 : decode cX11_four 15 = .ok (.iload_n 1, 1) := by decide +kernel
theorem dX11_four_16 : decode cX11_four 16 = .ok (.iload_n 2, 1) := by decide +kernel
theorem dX11_four_17 : decode cX11_four 17 = .ok (.ishr, 1) := by decide +kernel
theorem dX11_four_18 : decode cX11_four 18 = .ok (.i2b, 1) := by decide +kernel
theorem dX11_four_19 : decode cX11_four 19 = .ok (.bastore, 1) := by decide +kernel
theorem dX11_four_20 : decode cX11_four 20 = .ok (.aload_n 0, 1) := by decide +kernel
theorem dX11_four_21 : decode cX11_four 21 = .ok (.dup, 1) := by decide +kernel
theorem dX11_four_22 : decode cX11_four 22 = .ok (.getfield 134, 3) := by decide +kernel
theorem dX11_four_25 : decode cX11_four 25 = .ok (.iconst 1, 1) := by decide +kernel
theorem dX11_four_26 : decode cX11_four 26 = .ok (.iadd, 1) := by decide +kernel
theorem dX11_four_27 : decode cX11_four 27 = .ok (.putfield 134, 3) := by decide +kernel
theorem dX11_four_30 : decode cX11_four 30 = .ok (.iinc 2 (-8), 3) := by decide +kernel
theorem dX11_four_33 : decode cX11_four 33 = .ok (.goto (-30), 3) := by decide +kernel
theorem dX11_four_36 : decode cX11_four 36 = .ok (.return_, 1) := by decide +kernel
theorem dX11_end_0 : decode cX11_end 0 = .ok (.aload_n 0, 1) := by decide +kernel
theorem dX11_end_1 : decode cX11_end 1 = .ok (.iconst 0, 1) := by decide +kernel
theorem dX11_end_2 : decode cX11_end 2 = .ok (.putfield 1, 3) := by decide +kernel
theorem dX11_end_5 : decode cX11_end 5 = .ok (.iload_n 1, 1) := by decide +kernel
theorem dX11_end_6 : decode cX11_end 6 = .ok (.ifCond .lt 11, 3) := by decide +kernel
theorem dX11_end_9 : decode cX11_end 9 = .ok (.iload_n 1, 1) := by decide +kernel
theorem dX11_end_10 : decode cX11_end 10 = .ok (.aload_n 0, 1) := by decide +kernel
theorem dX11_end_11 : decode cX11_end 11 = .ok (.getfield 134, 3) := by decide +kernel
theorem dX11_end_14 : decode cX11_end 14 = .ok (.if_icmp .le 5, 3) := by decide +kernel
theorem dX11_end_17 : decode cX11_end 17 = .ok (.iconst 0, 1) := by decide +kernel
theorem dX11_end_18 : decode cX11_end 18 = .ok (.ireturn, 1) := by decide +kernel
theorem dX11_end_19 : decode cX11_end 19 = .ok (.aload_n 0, 1) := by decide +kernel
theorem dX11_end_20 : decode cX11_end 20 = .ok (.iload_n 1, 1) := by decide +kernel
theorem dX11_end_21 : decode cX11_end 21 = .ok (.putfield 134, 3) := by decide +kernel
theorem dX11_end_24 : decode cX11_end 24 = .ok (.iconst 1, 1) := by decide +kernel
theorem dX11_end_25 : decode cX11_end 25 = .ok (.ireturn, 1) := by decide +kernel
theorem dX11_isIn_0 : decode cX11_isIn 0 = .ok (.iload_n 0, 1) := by decide +kernel
theorem dX11_isIn_1 : decode cX11_isIn 1 = .ok (.iload_n 1, 1) := by decide +kernel
theorem dX11_isIn_2 : decode cX11_isIn 2 = .ok (.if_icmp .lt 12, 3) := by decide +kernel
theorem dX11_isIn_5 : decode cX11_isIn 5 = .ok (.iload_n 0, 1) := by decide +kernel
theorem dX11_isIn_6 : decode cX11_isIn 6 = .ok (.iload_n 2, 1) := by decide +kernel
theorem dX11_isIn_7 : decode cX11_isIn 7 = .ok (.if_icmp .gt 7, 3) := by decide +kernel
theorem dX11_isIn_10 : decode cX11_isIn 10 = .ok (.iconst 1, 1) := by decide +kernel
theorem dX11_isIn_11 : decode cX11_isIn 11 = .ok (.goto 4, 3) := by decide +kernel
theorem dX11_isIn_14 : decode cX11_isIn 14 = .ok (.iconst 0, 1) := by decide +kernel
theorem dX11_isIn_15 : decode cX11_isIn 15 = .ok (.ireturn, 1) := by decide +kernel
theorem dX11_bitOf_0 : decode cX11_bitOf 0 = .ok (.iload_n 0, 1) := by decide +kernel
theorem dX11_bitOf_1 : decode cX11_bitOf 1 = .ok (.iload_n 1, 1) := by decide +kernel
theorem dX11_bitOf_2 : decode cX11_bitOf 2 = .ok (.ishr, 1) := by decide +kernel
theorem dX11_bitOf_3 : decode cX11_bitOf 3 = .ok (.iconst 1, 1) := by decide +kernel
theorem dX11_bitOf_4 : decode cX11_bitOf 4 = .ok (.iand, 1) := by decide +kernel
theorem dX11_bitOf_5 : decode cX11_bitOf 5 = .ok (.iconst 1, 1) := by decide +kernel
theorem dX11_bitOf_6 : decode cX11_bitOf 6 = .ok (.if_icmp .ne 7, 3) := by decide +kernel
theorem dX11_bitOf_9 : decode cX11_bitOf 9 = .ok (.iconst 1, 1) := by decide +kernel
theorem dX11_bitOf_10 : decode cX11_bitOf 10 = .ok (.goto 4, 3) := by decide +kernel
theorem dX11_bitOf_13 : decode cX11_bitOf 13 = .ok (.iconst 0, 1) := by decide +kernel
theorem dX11_bitOf_14 : decode cX11_bitOf 14 = .ok (.ireturn, 1) := by decide +kernel
theorem dX11_bits_0 : decode cX11_bits 0 = .ok (.iconst 0, 1) := by decide +kernel
theorem dX11_bits_1 : decode cX11_bits 1 = .ok (.istore_n 1, 1) := by decide +kernel
theorem dX11_bits_2 : decode cX11_bits 2 = .ok (.iconst 0, 1) := by decide +kernel
theorem dX11_bits_3 : decode cX11_bits 3 = .ok (.istore_n 2, 1) := by decide +kernel
theorem dX11_bits_4 : decode cX11_bits 4 = .ok (.iload_n 2, 1) := by decide +kernel
theorem dX11_bits_5 : decode cX11_bits 5 = .ok (.bipush 32, 2) := by decide +kernel
theorem dX11_bits_7 : decode cX11_bits 7 = .ok (.if_icmp .ge 17, 3) := by decide +kernel
theorem dX11_bits_10 : decode cX11_bits 10 = .ok (.iload_n 1, 1) := by decide +kernel
theorem dX11_bits_11 : decode cX11_bits 11 = .ok (.iload_n 0, 1) := by decide +kernel
theorem dX11_bits_12 : decode cX11_bits 12 = .ok (.iload_n 2, 1) := by decide +kernel
theorem dX11_bits_13 : decode cX11_bits 13 = .ok (.ishr, 1) := by decide +kernel
theorem dX11_bits_14 : decode cX11_bits 14 = .ok (.iconst 1, 1) := by decide +kernel
theorem dX11_bits_15 : decode cX11_bits 15 = .ok (.iand, 1) := by decide +kernel
theorem dX11_bits_16 : decode cX11_bits 16 = .ok (.iadd, 1) := by decide +kernel
theorem dX11_bits_17 : decode cX11_bits 17 = .ok (.istore_n 1, 1) := by decide +kernel
theorem dX11_bits_18 : decode cX11_bits 18 = .ok (.iinc 2 1, 3) := by decide +kernel
theorem dX11_bits_21 : decode cX11_bits 21 = .ok (.goto (-17), 3) := by decide +kernel
theorem dX11_bits_24 : decode cX11_bits 24 = .ok (.iload_n 1, 1) := by decide +kernel
theorem dX11_bits_25 : decode cX11_bits 25 = .ok (.ireturn, 1) := by decide +kernel
theorem dX11_d_0 : decode cX11_d 0 = .ok (.aload_n 0, 1) := by decide +kernel
theorem dX11_d_1 : decode cX11_d 1 = .ok (.getfield 13, 3) := by decide +kernel
theorem dX11_d_4 : decode cX11_d 4 = .ok (.iconst 0, 1) := by decide +kernel
theorem dX11_d_5 : decode cX11_d 5 = .ok (.iaload, 1) := by decide +kernel
theorem dX11_d_6 : decode cX11_d 6 = .ok (.ireturn, 1) := by decide +kernel
theorem dX11_qubits_0 : decode cX11_qubits 0 = .ok (.aload_n 0, 1) := by decide +kernel
theorem dX11_qubits_1 : decode cX11_qubits 1 = .ok (.getfield 13, 3) := by decide +kernel
theorem dX11_qubits_4 : decode cX11_qubits 4 = .ok (.iconst 0, 1) := by decide +kernel
theorem dX11_qubits_5 : decode cX11_qubits 5 = .ok (.iaload, 1) := by decide +kernel
theorem dX11_qubits_6 : decode cX11_qubits 6 = .ok (.aload_n 0, 1) := by decide +kernel
theorem dX11_qubits_7 : decode cX11_qubits 7 = .ok (.getfield 13, 3) := by decide +kernel
theorem dX11_qubits_10 : decode cX11_qubits 10 = .ok (.iconst 0, 1) := by decide +kernel
theorem dX11_qubits_11 : decode cX11_qubits 11 = .ok (.iaload, 1) := by decide +kernel
theorem dX11_qubits_12 : decode cX11_qubits 12 = .ok (.imul, 1) := by decide +kernel
theorem dX11_qubits_13 : decode cX11_qubits 13 = .ok (.ireturn, 1) := by decide +kernel
theorem dX11_kindOn_0 : decode cX11_kindOn 0 = .ok (.iload_n 1, 1) := by decide +kernel
theorem dX11_kindOn_1 : decode cX11_kindOn 1 = .ok (.iload_n 2, 1) := by decide +kernel
theorem dX11_kindOn_2 : decode cX11_kindOn 2 = .ok (.iadd, 1) := by decide +kernel
theorem dX11_kindOn_3 : decode cX11_kindOn 3 = .ok (.iconst 2, 1) := by decide +kernel
theorem dX11_kindOn_4 : decode cX11_kindOn 4 = .ok (.irem, 1) := by decide +kernel
theorem dX11_kindOn_5 : decode cX11_kindOn 5 = .ok (.ifCond .ne 7, 3) := by decide +kernel
theorem dX11_kindOn_8 : decode cX11_kindOn 8 = .ok (.iconst 1, 1) := by decide +kernel
theorem dX11_kindOn_9 : decode cX11_kindOn 9 = .ok (.goto 4, 3) := by decide +kernel
theorem dX11_kindOn_12 : decode cX11_kindOn 12 = .ok (.iconst 0, 1) := by decide +kernel
theorem dX11_kindOn_13 : decode cX11_kindOn 13 = .ok (.istore_n 3, 1) := by decide +kernel
theorem dX11_kindOn_14 : decode cX11_kindOn 14 = .ok (.iload_n 1, 1) := by decide +kernel
theorem dX11_kindOn_15 : decode cX11_kindOn 15 = .ok (.iconst 1, 1) := by decide +kernel
theorem dX11_kindOn_16 : decode cX11_kindOn 16 = .ok (.aload_n 0, 1) := by decide +kernel
theorem dX11_kindOn_17 : decode cX11_kindOn 17 = .ok (.invokevirtual 140, 3) := by decide +kernel
theorem dX11_kindOn_20 : decode cX11_kindOn 20 = .ok (.iconst 1, 1) := by decide +kernel
theorem dX11_kindOn_21 : decode cX11_kindOn 21 = .ok (.isub, 1) := by decide +kernel
theorem dX11_kindOn_22 : decode cX11_kindOn 22 = .ok (.invokestatic 144, 3) := by decide +kernel
theorem dX11_kindOn_25 : decode cX11_kindOn 25 = .ok (.istore 4, 2) := by decide +kernel
theorem dX11_kindOn_27 : decode cX11_kindOn 27 = .ok (.iload_n 2, 1) := by decide +kernel
theorem dX11_kindOn_28 : decode cX11_kindOn 28 = .ok (.iconst 1, 1) := by decide +kernel
theorem dX11_kindOn_29 : decode cX11_kindOn 29 = .ok (.aload_n 0, 1) := by decide +kernel
theorem dX11_kindOn_30 : decode cX11_kindOn 30 = .ok (.invokevirtual 140, 3) := by decide +kernel
theorem dX11_kindOn_33 : decode cX11_kindOn 33 = .ok (.iconst 1, 1) := by decide +kernel
theorem dX11_kindOn_34 : decode cX11_kindOn 34 = .ok (.isub, 1) := by decide +kernel
theorem dX11_kindOn_35 : decode cX11_kindOn 35 = .ok (.invokestatic 144, 3) := by decide +kernel
theorem dX11_kindOn_38 : decode cX11_kindOn 38 = .ok (.istore 5, 2) := by decide +kernel
theorem dX11_kindOn_40 : decode cX11_kindOn 40 = .ok (.iload 4, 2) := by decide +kernel
theorem dX11_kindOn_42 : decode cX11_kindOn 42 = .ok (.ifCond .eq 18, 3) := by decide +kernel
theorem dX11_kindOn_45 : decode cX11_kindOn 45 = .ok (.iload 5, 2) := by decide +kernel
theorem dX11_kindOn_47 : decode cX11_kindOn 47 = .ok (.ifCond .eq 13, 3) := by decide +kernel
theorem dX11_kindOn_50 : decode cX11_kindOn 50 = .ok (.iload_n 3, 1) := by decide +kernel
theorem dX11_kindOn_51 : decode cX11_kindOn 51 = .ok (.ifCond .eq 7, 3) := by decide +kernel
theorem dX11_kindOn_54 : decode cX11_kindOn 54 = .ok (.iconst 0, 1) := by decide +kernel
theorem dX11_kindOn_55 : decode cX11_kindOn 55 = .ok (.goto 4, 3) := by decide +kernel
theorem dX11_kindOn_58 : decode cX11_kindOn 58 = .ok (.iconst 1, 1) := by decide +kernel
theorem dX11_kindOn_59 : decode cX11_kindOn 59 = .ok (.ireturn, 1) := by decide +kernel
theorem dX11_kindOn_60 : decode cX11_kindOn 60 = .ok (.iload 4, 2) := by decide +kernel
theorem dX11_kindOn_62 : decode cX11_kindOn 62 = .ok (.ifCond .eq 13, 3) := by decide +kernel
theorem dX11_kindOn_65 : decode cX11_kindOn 65 = .ok (.iload_n 3, 1) := by decide +kernel
theorem dX11_kindOn_66 : decode cX11_kindOn 66 = .ok (.ifCond .eq 7, 3) := by decide +kernel
theorem dX11_kindOn_69 : decode cX11_kindOn 69 = .ok (.iconst 0, 1) := by decide +kernel
theorem dX11_kindOn_70 : decode cX11_kindOn 70 = .ok (.goto 4, 3) := by decide +kernel
theorem dX11_kindOn_73 : decode cX11_kindOn 73 = .ok (.iconst (-1), 1) := by decide +kernel
theorem dX11_kindOn_74 : decode cX11_kindOn 74 = .ok (.ireturn, 1) := by decide +kernel
theorem dX11_kindOn_75 : decode cX11_kindOn 75 = .ok (.iload 5, 2) := by decide +kernel
theorem dX11_kindOn_77 : decode cX11_kindOn 77 = .ok (.ifCond .eq 11, 3) := by decide +kernel
theorem dX11_kindOn_80 : decode cX11_kindOn 80 = .ok (.iload_n 3, 1) := by decide +kernel
theorem dX11_kindOn_81 : decode cX11_kindOn 81 = .ok (.ifCond .ne 7, 3) := by decide +kernel
theorem dX11_kindOn_84 : decode cX11_kindOn 84 = .ok (.iconst 1, 1) := by decide +kernel
theorem dX11_kindOn_85 : decode cX11_kindOn 85 = .ok (.goto 4, 3) := by decide +kernel
theorem dX11_kindOn_88 : decode cX11_kindOn 88 = .ok (.iconst (-1), 1) := by decide +kernel
theorem dX11_kindOn_89 : decode cX11_kindOn 89 = .ok (.ireturn, 1) := by decide +kernel
theorem dX11_bitsOn_0 : decode cX11_bitsOn 0 = .ok (.iconst 0, 1) := by decide +kernel
theorem dX11_bitsOn_1 : decode cX11_bitsOn 1 = .ok (.istore_n 3, 1) := by decide +kernel
theorem dX11_bitsOn_2 : decode cX11_bitsOn 2 = .ok (.iload_n 1, 1) := by decide +kernel
theorem dX11_bitsOn_3 : decode cX11_bitsOn 3 = .ok (.iconst 1, 1) := by decide +kernel
theorem dX11_bitsOn_4 : decode cX11_bitsOn 4 = .ok (.isub, 1) := by decide +kernel
theorem dX11_bitsOn_5 : decode cX11_bitsOn 5 = .ok (.istore 4, 2) := by decide +kernel
theorem dX11_bitsOn_7 : decode cX11_bitsOn 7 = .ok (.iload 4, 2) := by decide +kernel
theorem dX11_bitsOn_9 : decode cX11_bitsOn 9 = .ok (.iload_n 1, 1) := by decide +kernel
theorem dX11_bitsOn_10 : decode cX11_bitsOn 10 = .ok (.if_icmp .gt 71, 3) := by decide +kernel
theorem dX11_bitsOn_13 : decode cX11_bitsOn 13 = .ok (.iload_n 2, 1) := by decide +kernel
theorem dX11_bitsOn_14 : decode cX11_bitsOn 14 = .ok (.iconst 1, 1) := by decide +kernel
theorem dX11_bitsOn_15 : decode cX11_bitsOn 15 = .ok (.isub, 1) := by decide +kernel
theorem dX11_bitsOn_16 : decode cX11_bitsOn 16 = .ok (.istore 5, 2) := by decide +kernel
theorem dX11_bitsOn_18 : decode cX11_bitsOn 18 = .ok (.iload 5, 2) := by decide +kernel
theorem dX11_bitsOn_20 : decode cX11_bitsOn 20 = .ok (.iload_n 2, 1) := by decide +kernel
theorem dX11_bitsOn_21 : decode cX11_bitsOn 21 = .ok (.if_icmp .gt 54, 3) := by decide +kernel
theorem dX11_bitsOn_24 : decode cX11_bitsOn 24 = .ok (.iload 4, 2) := by decide +kernel
theorem dX11_bitsOn_26 : decode cX11_bitsOn 26 = .ok (.iconst 0, 1) := by decide +kernel
theorem dX11_bitsOn_27 : decode cX11_bitsOn 27 = .ok (.aload_n 0, 1) := by decide +kernel
theorem dX11_bitsOn_28 : decode cX11_bitsOn 28 = .ok (.invokevirtual 140, 3) := by decide +kernel
theorem dX11_bitsOn_31 : decode cX11_bitsOn 31 = .ok (.iconst 1, 1) := by decide +kernel
theorem dX11_bitsOn_32 : decode cX11_bitsOn 32 = .ok (.isub, 1) := by decide +kernel
theorem dX11_bitsOn_33 : decode cX11_bitsOn 33 = .ok (.invokestatic 144, 3) := by decide +kernel
theorem dX11_bitsOn_36 : decode cX11_bitsOn 36 = .ok (.ifCond .eq 33, 3) := by decide +kernel
theorem dX11_bitsOn_39 : decode cX11_bitsOn 39 = .ok (.iload 5, 2) := by decide +kernel
theorem dX11_bitsOn_41 : decode cX11_bitsOn 41 = .ok (.iconst 0, 1) := by decide +kernel
theorem dX11_bitsOn_42 : decode cX11_bitsOn 42 = .ok (.aload_n 0, 1) := by decide +kernel
theorem dX11_bitsOn_43 : decode cX11_bitsOn 43 = .ok (.invokevirtual 140, 3) := by decide +kernel
theorem dX11_bitsOn_46 : decode cX11_bitsOn 46 = .ok (.iconst 1, 1) := by decide +kernel
theorem dX11_bitsOn_47 : decode cX11_bitsOn 47 = .ok (.isub, 1) := by decide +kernel
theorem dX11_bitsOn_48 : decode cX11_bitsOn 48 = .ok (.invokestatic 144, 3) := by decide +kernel
theorem dX11_bitsOn_51 : decode cX11_bitsOn 51 = .ok (.ifCond .eq 18, 3) := by decide +kernel
theorem dX11_bitsOn_54 : decode cX11_bitsOn 54 = .ok (.iload_n 3, 1) := by decide +kernel
theorem dX11_bitsOn_55 : decode cX11_bitsOn 55 = .ok (.iconst 1, 1) := by decide +kernel
theorem dX11_bitsOn_56 : decode cX11_bitsOn 56 = .ok (.aload_n 0, 1) := by decide +kernel
theorem dX11_bitsOn_57 : decode cX11_bitsOn 57 = .ok (.invokevirtual 140, 3) := by decide +kernel
theorem dX11_bitsOn_60 : decode cX11_bitsOn 60 = .ok (.iload 4, 2) := by decide +kernel
theorem dX11_bitsOn_62 : decode cX11_bitsOn 62 = .ok (.imul, 1) := by decide +kernel
theorem dX11_bitsOn_63 : decode cX11_bitsOn 63 = .ok (.iload 5, 2) := by decide +kernel
theorem dX11_bitsOn_65 : decode cX11_bitsOn 65 = .ok (.iadd, 1) := by decide +kernel
theorem dX11_bitsOn_66 : decode cX11_bitsOn 66 = .ok (.ishl, 1) := by decide +kernel
theorem dX11_bitsOn_67 : decode cX11_bitsOn 67 = .ok (.ior, 1) := by decide +kernel
theorem dX11_bitsOn_68 : decode cX11_bitsOn 68 = .ok (.istore_n 3, 1) := by decide +kernel
theorem dX11_bitsOn_69 : decode cX11_bitsOn 69 = .ok (.iinc 5 1, 3) := by decide +kernel
theorem dX11_bitsOn_72 : decode cX11_bitsOn 72 = .ok (.goto (-54), 3) := by decide +kernel
theorem dX11_bitsOn_75 : decode cX11_bitsOn 75 = .ok (.iinc 4 1, 3) := by decide +kernel
theorem dX11_bitsOn_78 : decode cX11_bitsOn 78 = .ok (.goto (-71), 3) := by decide +kernel
theorem dX11_bitsOn_81 : decode cX11_bitsOn 81 = .ok (.iload_n 3, 1) := by decide +kernel
theorem dX11_bitsOn_82 : decode cX11_bitsOn 82 = .ok (.ireturn, 1) := by decide +kernel
theorem dX11_lays_0 : decode cX11_lays 0 = .ok (.aload_n 0, 1) := by decide +kernel
theorem dX11_lays_1 : decode cX11_lays 1 = .ok (.aload_n 0, 1) := by decide +kernel
theorem dX11_lays_2 : decode cX11_lays 2 = .ok (.invokevirtual 148, 3) := by decide +kernel
theorem dX11_lays_5 : decode cX11_lays 5 = .ok (.iconst 1, 1) := by decide +kernel
theorem dX11_lays_6 : decode cX11_lays 6 = .ok (.isub, 1) := by decide +kernel
theorem dX11_lays_7 : decode cX11_lays 7 = .ok (.iconst 2, 1) := by decide +kernel
theorem dX11_lays_8 : decode cX11_lays 8 = .ok (.idiv, 1) := by decide +kernel
theorem dX11_lays_9 : decode cX11_lays 9 = .ok (.putfield 151, 3) := by decide +kernel
theorem dX11_lays_12 : decode cX11_lays 12 = .ok (.iconst 0, 1) := by decide +kernel
theorem dX11_lays_13 : decode cX11_lays 13 = .ok (.istore_n 1, 1) := by decide +kernel
theorem dX11_lays_14 : decode cX11_lays 14 = .ok (.iload_n 1, 1) := by decide +kernel
theorem dX11_lays_15 : decode cX11_lays 15 = .ok (.iconst 2, 1) := by decide +kernel
theorem dX11_lays_16 : decode cX11_lays 16 = .ok (.if_icmp .ge 184, 3) := by decide +kernel
theorem dX11_lays_19 : decode cX11_lays 19 = .ok (.iconst 0, 1) := by decide +kernel
theorem dX11_lays_20 : decode cX11_lays 20 = .ok (.istore_n 2, 1) := by decide +kernel
theorem dX11_lays_21 : decode cX11_lays 21 = .ok (.iconst 0, 1) := by decide +kernel
theorem dX11_lays_22 : decode cX11_lays 22 = .ok (.istore_n 3, 1) := by decide +kernel
theorem dX11_lays_23 : decode cX11_lays 23 = .ok (.iload_n 3, 1) := by decide +kernel
theorem dX11_lays_24 : decode cX11_lays 24 = .ok (.aload_n 0, 1) := by decide +kernel
theorem dX11_lays_25 : decode cX11_lays 25 = .ok (.invokevirtual 140, 3) := by decide +kernel
theorem dX11_lays_28 : decode cX11_lays 28 = .ok (.if_icmp .gt 87, 3) := by decide +kernel
theorem dX11_lays_31 : decode cX11_lays 31 = .ok (.iconst 0, 1) := by decide +kernel
theorem dX11_lays_32 : decode cX11_lays 32 = .ok (.istore 4, 2) := by decide +kernel
theorem dX11_lays_34 : decode cX11_lays 34 = .ok (.iload 4, 2) := by decide +kernel
theorem dX11_lays_36 : decode cX11_lays 36 = .ok (.aload_n 0, 1) := by decide +kernel
theorem dX11_lays_37 : decode cX11_lays 37 = .ok (.invokevirtual 140, 3) := by decide +kernel
theorem dX11_lays_40 : decode cX11_lays 40 = .ok (.if_icmp .gt 69, 3) := by decide +kernel
theorem dX11_lays_43 : decode cX11_lays 43 = .ok (.aload_n 0, 1) := by decide +kernel
theorem dX11_lays_44 : decode cX11_lays 44 = .ok (.iload_n 3, 1) := by decide +kernel
theorem dX11_lays_45 : decode cX11_lays 45 = .ok (.iload 4, 2) := by decide +kernel
theorem dX11_lays_47 : decode cX11_lays 47 = .ok (.invokevirtual 154, 3) := by decide +kernel
theorem dX11_lays_50 : decode cX11_lays 50 = .ok (.iload_n 1, 1) := by decide +kernel
theorem dX11_lays_51 : decode cX11_lays 51 = .ok (.if_icmp .eq 6, 3) := by decide +kernel
theorem dX11_lays_54 : decode cX11_lays 54 = .ok (.goto 49, 3) := by decide +kernel
theorem dX11_lays_57 : decode cX11_lays 57 = .ok (.aload_n 0, 1) := by decide +kernel
theorem dX11_lays_58 : decode cX11_lays 58 = .ok (.getfield 34, 3) := by decide +kernel
theorem dX11_lays_61 : decode cX11_lays 61 = .ok (.bipush 12, 2) := by decide +kernel
theorem dX11_lays_63 : decode cX11_lays 63 = .ok (.iload_n 1, 1) := by decide +kernel
theorem dX11_lays_64 : decode cX11_lays 64 = .ok (.imul, 1) := by decide +kernel
theorem dX11_lays_65 : decode cX11_lays 65 = .ok (.iload_n 2, 1) := by decide +kernel
theorem dX11_lays_66 : decode cX11_lays 66 = .ok (.iadd, 1) := by decide +kernel
theorem dX11_lays_67 : decode cX11_lays 67 = .ok (.iload_n 3, 1) := by decide +kernel
theorem dX11_lays_68 : decode cX11_lays 68 = .ok (.iastore, 1) := by decide +kernel
theorem dX11_lays_69 : decode cX11_lays 69 = .ok (.aload_n 0, 1) := by decide +kernel
theorem dX11_lays_70 : decode cX11_lays 70 = .ok (.getfield 37, 3) := by decide +kernel
theorem dX11_lays_73 : decode cX11_lays 73 = .ok (.bipush 12, 2) := by decide +kernel
theorem dX11_lays_75 : decode cX11_lays 75 = .ok (.iload_n 1, 1) := by decide +kernel
theorem dX11_lays_76 : decode cX11_lays 76 = .ok (.imul, 1) := by decide +kernel
theorem dX11_lays_77 : decode cX11_lays 77 = .ok (.iload_n 2, 1) := by decide +kernel
theorem dX11_lays_78 : decode cX11_lays 78 = .ok (.iadd, 1) := by decide +kernel
theorem dX11_lays_79 : decode cX11_lays 79 = .ok (.iload 4, 2) := by decide +kernel
theorem dX11_lays_81 : decode cX11_lays 81 = .ok (.iastore, 1) := by decide +kernel
theorem dX11_lays_82 : decode cX11_lays 82 = .ok (.aload_n 0, 1) := by decide +kernel
theorem dX11_lays_83 : decode cX11_lays 83 = .ok (.getfield 40, 3) := by decide +kernel
theorem dX11_lays_86 : decode cX11_lays 86 = .ok (.bipush 12, 2) := by decide +kernel
theorem dX11_lays_88 : decode cX11_lays 88 = .ok (.iload_n 1, 1) := by decide +kernel
theorem dX11_lays_89 : decode cX11_lays 89 = .ok (.imul, 1) := by decide +kernel
theorem dX11_lays_90 : decode cX11_lays 90 = .ok (.iload_n 2, 1) := by decide +kernel
theorem dX11_lays_91 : decode cX11_lays 91 = .ok (.iadd, 1) := by decide +kernel
theorem dX11_lays_92 : decode cX11_lays 92 = .ok (.aload_n 0, 1) := by decide +kernel
theorem dX11_lays_93 : decode cX11_lays 93 = .ok (.iload_n 3, 1) := by decide +kernel
theorem dX11_lays_94 : decode cX11_lays 94 = .ok (.iload 4, 2) := by decide +kernel
theorem dX11_lays_96 : decode cX11_lays 96 = .ok (.invokevirtual 158, 3) := by decide +kernel
theorem dX11_lays_99 : decode cX11_lays 99 = .ok (.iastore, 1) := by decide +kernel
theorem dX11_lays_100 : decode cX11_lays 100 = .ok (.iinc 2 1, 3) := by decide +kernel
theorem dX11_lays_103 : decode cX11_lays 103 = .ok (.iinc 4 1, 3) := by decide +kernel
theorem dX11_lays_106 : decode cX11_lays 106 = .ok (.goto (-72), 3) := by decide +kernel
theorem dX11_lays_109 : decode cX11_lays 109 = .ok (.iinc 3 1, 3) := by decide +kernel
theorem dX11_lays_112 : decode cX11_lays 112 = .ok (.goto (-89), 3) := by decide +kernel
theorem dX11_lays_115 : decode cX11_lays 115 = .ok (.iconst 0, 1) := by decide +kernel
theorem dX11_lays_116 : decode cX11_lays 116 = .ok (.istore_n 3, 1) := by decide +kernel
theorem dX11_lays_117 : decode cX11_lays 117 = .ok (.iload_n 3, 1) := by decide +kernel
theorem dX11_lays_118 : decode cX11_lays 118 = .ok (.aload_n 0, 1) := by decide +kernel
theorem dX11_lays_119 : decode cX11_lays 119 = .ok (.invokevirtual 148, 3) := by decide +kernel
theorem dX11_lays_122 : decode cX11_lays 122 = .ok (.if_icmp .ge 72, 3) := by decide +kernel
theorem dX11_lays_125 : decode cX11_lays 125 = .ok (.aload_n 0, 1) := by decide +kernel
theorem dX11_lays_126 : decode cX11_lays 126 = .ok (.getfield 43, 3) := by decide +kernel
theorem dX11_lays_129 : decode cX11_lays 129 = .ok (.bipush 25, 2) := by decide +kernel
theorem dX11_lays_131 : decode cX11_lays 131 = .ok (.iload_n 1, 1) := by decide +kernel
theorem dX11_lays_132 : decode cX11_lays 132 = .ok (.imul, 1) := by decide +kernel
theorem dX11_lays_133 : decode cX11_lays 133 = .ok (.iload_n 3, 1) := by decide +kernel
theorem dX11_lays_134 : decode cX11_lays 134 = .ok (.iadd, 1) := by decide +kernel
theorem dX11_lays_135 : decode cX11_lays 135 = .ok (.iconst 0, 1) := by decide +kernel
theorem dX11_lays_136 : decode cX11_lays 136 = .ok (.iastore, 1) := by decide +kernel
theorem dX11_lays_137 : decode cX11_lays 137 = .ok (.iconst 0, 1) := by decide +kernel
theorem dX11_lays_138 : decode cX11_lays 138 = .ok (.istore_n 2, 1) := by decide +kernel
theorem dX11_lays_139 : decode cX11_lays 139 = .ok (.iload_n 2, 1) := by decide +kernel
theorem dX11_lays_140 : decode cX11_lays 140 = .ok (.aload_n 0, 1) := by decide +kernel
theorem dX11_lays_141 : decode cX11_lays 141 = .ok (.getfield 151, 3) := by decide +kernel
theorem dX11_lays_144 : decode cX11_lays 144 = .ok (.if_icmp .ge 44, 3) := by decide +kernel
theorem dX11_lays_147 : decode cX11_lays 147 = .ok (.aload_n 0, 1) := by decide +kernel
theorem dX11_lays_148 : decode cX11_lays 148 = .ok (.getfield 40, 3) := by decide +kernel
theorem dX11_lays_151 : decode cX11_lays 151 = .ok (.bipush 12, 2) := by decide +kernel
theorem dX11_lays_153 : decode cX11_lays 153 = .ok (.iload_n 1, 1) := by decide +kernel
theorem dX11_lays_154 : decode cX11_lays 154 = .ok (.imul, 1) := by decide +kernel
theorem dX11_lays_155 : decode cX11_lays 155 = .ok (.iload_n 2, 1) := by decide +kernel
theorem dX11_lays_156 : decode cX11_lays 156 = .ok (.iadd, 1) := by decide +kernel
theorem dX11_lays_157 : decode cX11_lays 157 = .ok (.iaload, 1) := by decide +kernel
theorem dX11_lays_158 : decode cX11_lays 158 = .ok (.iload_n 3, 1) := by decide +kernel
theorem dX11_lays_159 : decode cX11_lays 159 = .ok (.invokestatic 161, 3) := by decide +kernel
theorem dX11_lays_162 : decode cX11_lays 162 = .ok (.ifCond .eq 20, 3) := by decide +kernel
theorem dX11_lays_165 : decode cX11_lays 165 = .ok (.aload_n 0, 1) := by decide +kernel
theorem dX11_lays_166 : decode cX11_lays 166 = .ok (.getfield 43, 3) := by decide +kernel
theorem dX11_lays_169 : decode cX11_lays 169 = .ok (.bipush 25, 2) := by decide +kernel
theorem dX11_lays_171 : decode cX11_lays 171 = .ok (.iload_n 1, 1) := by decide +kernel
theorem dX11_lays_172 : decode cX11_lays 172 = .ok (.imul, 1) := by decide +kernel
theorem dX11_lays_173 : decode cX11_lays 173 = .ok (.iload_n 3, 1) := by decide +kernel
theorem dX11_lays_174 : decode cX11_lays 174 = .ok (.iadd, 1) := by decide +kernel
theorem dX11_lays_175 : decode cX11_lays 175 = .ok (.dup2, 1) := by decide +kernel
theorem dX11_lays_176 : decode cX11_lays 176 = .ok (.iaload, 1) := by decide +kernel
theorem dX11_lays_177 : decode cX11_lays 177 = .ok (.iconst 1, 1) := by decide +kernel
theorem dX11_lays_178 : decode cX11_lays 178 = .ok (.iload_n 2, 1) := by decide +kernel
theorem dX11_lays_179 : decode cX11_lays 179 = .ok (.ishl, 1) := by decide +kernel
theorem dX11_lays_180 : decode cX11_lays 180 = .ok (.ior, 1) := by decide +kernel
theorem dX11_lays_181 : decode cX11_lays 181 = .ok (.iastore, 1) := by decide +kernel
theorem dX11_lays_182 : decode cX11_lays 182 = .ok (.iinc 2 1, 3) := by decide +kernel
theorem dX11_lays_185 : decode cX11_lays 185 = .ok (.goto (-46), 3) := by decide +kernel
theorem dX11_lays_188 : decode cX11_lays 188 = .ok (.iinc 3 1, 3) := by decide +kernel
theorem dX11_lays_191 : decode cX11_lays 191 = .ok (.goto (-74), 3) := by decide +kernel
theorem dX11_lays_194 : decode cX11_lays 194 = .ok (.iinc 1 1, 3) := by decide +kernel
theorem dX11_lays_197 : decode cX11_lays 197 = .ok (.goto (-183), 3) := by decide +kernel
theorem dX11_lays_200 : decode cX11_lays 200 = .ok (.return_, 1) := by decide +kernel
theorem dX11_isKind_0 : decode cX11_isKind 0 = .ok (.iload_n 0, 1) := by decide +kernel
theorem dX11_isKind_1 : decode cX11_isKind 1 = .ok (.ifCond .eq 8, 3) := by decide +kernel
theorem dX11_isKind_4 : decode cX11_isKind 4 = .ok (.iload_n 0, 1) := by decide +kernel
theorem dX11_isKind_5 : decode cX11_isKind 5 = .ok (.iconst 1, 1) := by decide +kernel
theorem dX11_isKind_6 : decode cX11_isKind 6 = .ok (.if_icmp .ne 7, 3) := by decide +kernel
theorem dX11_isKind_9 : decode cX11_isKind 9 = .ok (.iconst 1, 1) := by decide +kernel
theorem dX11_isKind_10 : decode cX11_isKind 10 = .ok (.goto 4, 3) := by decide +kernel
theorem dX11_isKind_13 : decode cX11_isKind 13 = .ok (.iconst 0, 1) := by decide +kernel
theorem dX11_isKind_14 : decode cX11_isKind 14 = .ok (.ireturn, 1) := by decide +kernel
theorem dX11_isCheck_0 : decode cX11_isCheck 0 = .ok (.iload_n 1, 1) := by decide +kernel
theorem dX11_isCheck_1 : decode cX11_isCheck 1 = .ok (.invokestatic 165, 3) := by decide +kernel
theorem dX11_isCheck_4 : decode cX11_isCheck 4 = .ok (.ifCond .eq 21, 3) := by decide +kernel
theorem dX11_isCheck_7 : decode cX11_isCheck 7 = .ok (.iload_n 2, 1) := by decide +kernel
theorem dX11_isCheck_8 : decode cX11_isCheck 8 = .ok (.iconst 0, 1) := by decide +kernel
theorem dX11_isCheck_9 : decode cX11_isCheck 9 = .ok (.aload_n 0, 1) := by decide +kernel
theorem dX11_isCheck_10 : decode cX11_isCheck 10 = .ok (.getfield 151, 3) := by decide +kernel
theorem dX11_isCheck_13 : decode cX11_isCheck 13 = .ok (.iconst 1, 1) := by decide +kernel
theorem dX11_isCheck_14 : decode cX11_isCheck 14 = .ok (.isub, 1) := by decide +kernel
theorem dX11_isCheck_15 : decode cX11_isCheck 15 = .ok (.invokestatic 144, 3) := by decide +kernel
theorem dX11_isCheck_18 : decode cX11_isCheck 18 = .ok (.ifCond .eq 7, 3) := by decide +kernel
theorem dX11_isCheck_21 : decode cX11_isCheck 21 = .ok (.iconst 1, 1) := by decide +kernel
theorem dX11_isCheck_22 : decode cX11_isCheck 22 = .ok (.goto 4, 3) := by decide +kernel
theorem dX11_isCheck_25 : decode cX11_isCheck 25 = .ok (.iconst 0, 1) := by decide +kernel
theorem dX11_isCheck_26 : decode cX11_isCheck 26 = .ok (.ireturn, 1) := by decide +kernel
theorem dX11_loud_0 : decode cX11_loud 0 = .ok (.iconst 0, 1) := by decide +kernel
theorem dX11_loud_1 : decode cX11_loud 1 = .ok (.istore_n 3, 1) := by decide +kernel
theorem dX11_loud_2 : decode cX11_loud 2 = .ok (.iconst 0, 1) := by decide +kernel
theorem dX11_loud_3 : decode cX11_loud 3 = .ok (.istore 4, 2) := by decide +kernel
theorem dX11_loud_5 : decode cX11_loud 5 = .ok (.iload 4, 2) := by decide +kernel
theorem dX11_loud_7 : decode cX11_loud 7 = .ok (.aload_n 0, 1) := by decide +kernel
theorem dX11_loud_8 : decode cX11_loud 8 = .ok (.getfield 151, 3) := by decide +kernel
theorem dX11_loud_11 : decode cX11_loud 11 = .ok (.if_icmp .ge 34, 3) := by decide +kernel
theorem dX11_loud_14 : decode cX11_loud 14 = .ok (.iload_n 3, 1) := by decide +kernel
theorem dX11_loud_15 : decode cX11_loud 15 = .ok (.aload_n 0, 1) := by decide +kernel
theorem dX11_loud_16 : decode cX11_loud 16 = .ok (.getfield 40, 3) := by decide +kernel
theorem dX11_loud_19 : decode cX11_loud 19 = .ok (.bipush 12, 2) := by decide +kernel
theorem dX11_loud_21 : decode cX11_loud 21 = .ok (.iload_n 1, 1) := by decide +kernel
theorem dX11_loud_22 : decode cX11_loud 22 = .ok (.imul, 1) := by decide +kernel
theorem dX11_loud_23 : decode cX11_loud 23 = .ok (.iload 4, 2) := by decide +kernel
theorem dX11_loud_25 : decode cX11_loud 25 = .ok (.iadd, 1) := by decide +kernel
theorem dX11_loud_26 : decode cX11_loud 26 = .ok (.iaload, 1) := by decide +kernel
theorem dX11_loud_27 : decode cX11_loud 27 = .ok (.iload_n 2, 1) := by decide +kernel
theorem dX11_loud_28 : decode cX11_loud 28 = .ok (.iand, 1) := by decide +kernel
theorem dX11_loud_29 : decode cX11_loud 29 = .ok (.invokestatic 169, 3) := by decide +kernel
theorem dX11_loud_32 : decode cX11_loud 32 = .ok (.iconst 1, 1) := by decide +kernel
theorem dX11_loud_33 : decode cX11_loud 33 = .ok (.iand, 1) := by decide +kernel
theorem dX11_loud_34 : decode cX11_loud 34 = .ok (.iload 4, 2) := by decide +kernel
theorem dX11_loud_36 : decode cX11_loud 36 = .ok (.ishl, 1) := by decide +kernel
theorem dX11_loud_37 : decode cX11_loud 37 = .ok (.ior, 1) := by decide +kernel
theorem dX11_loud_38 : decode cX11_loud 38 = .ok (.istore_n 3, 1) := by decide +kernel
theorem dX11_loud_39 : decode cX11_loud 39 = .ok (.iinc 4 1, 3) := by decide +kernel
theorem dX11_loud_42 : decode cX11_loud 42 = .ok (.goto (-37), 3) := by decide +kernel
theorem dX11_loud_45 : decode cX11_loud 45 = .ok (.iload_n 3, 1) := by decide +kernel
theorem dX11_loud_46 : decode cX11_loud 46 = .ok (.ireturn, 1) := by decide +kernel
theorem dX11_rowOrColumn_0 : decode cX11_rowOrColumn 0 = .ok (.iconst 0, 1) := by decide +kernel
theorem dX11_rowOrColumn_1 : decode cX11_rowOrColumn 1 = .ok (.istore_n 2, 1) := by decide +kernel
theorem dX11_rowOrColumn_2 : decode cX11_rowOrColumn 2 = .ok (.iconst 0, 1) := by decide +kernel
theorem dX11_rowOrColumn_3 : decode cX11_rowOrColumn 3 = .ok (.istore_n 3, 1) := by decide +kernel
theorem dX11_rowOrColumn_4 : decode cX11_rowOrColumn 4 = .ok (.iload_n 3, 1) := by decide +kernel
theorem dX11_rowOrColumn_5 : decode cX11_rowOrColumn 5 = .ok (.aload_n 0, 1) := by decide +kernel
theorem dX11_rowOrColumn_6 : decode cX11_rowOrColumn 6 = .ok (.invokevirtual 140, 3) := by decide +kernel
theorem dX11_rowOrColumn_9 : decode cX11_rowOrColumn 9 = .ok (.if_icmp .ge 28, 3) := by decide +kernel
theorem dX11_rowOrColumn_12 : decode cX11_rowOrColumn 12 = .ok (.iload_n 2, 1) := by decide +kernel
theorem dX11_rowOrColumn_13 : decode cX11_rowOrColumn 13 = .ok (.iconst 1, 1) := by decide +kernel
theorem dX11_rowOrColumn_14 : decode cX11_rowOrColumn 14 = .ok (.iload_n 1, 1) := by decide +kernel
theorem dX11_rowOrColumn_15 : decode cX11_rowOrColumn 15 = .ok (.ifCond .eq 7, 3) := by decide +kernel
theorem dX11_rowOrColumn_18 : decode cX11_rowOrColumn 18 = .ok (.iload_n 3, 1) := by decide +kernel
theorem dX11_rowOrColumn_19 : decode cX11_rowOrColumn 19 = .ok (.goto 9, 3) := by decide +kernel
theorem dX11_rowOrColumn_22 : decode cX11_rowOrColumn 22 = .ok (.aload_n 0, 1) := by decide +kernel
theorem dX11_rowOrColumn_23 : decode cX11_rowOrColumn 23 = .ok (.invokevirtual 140, 3) := by decide +kernel
theorem dX11_rowOrColumn_26 : decode cX11_rowOrColumn 26 = .ok (.iload_n 3, 1) := by decide +kernel
theorem dX11_rowOrColumn_27 : decode cX11_rowOrColumn 27 = .ok (.imul, 1) := by decide +kernel
theorem dX11_rowOrColumn_28 : decode cX11_rowOrColumn 28 = .ok (.ishl, 1) := by decide +kernel
theorem dX11_rowOrColumn_29 : decode cX11_rowOrColumn 29 = .ok (.ior, 1) := by decide +kernel
theorem dX11_rowOrColumn_30 : decode cX11_rowOrColumn 30 = .ok (.istore_n 2, 1) := by decide +kernel
theorem dX11_rowOrColumn_31 : decode cX11_rowOrColumn 31 = .ok (.iinc 3 1, 3) := by decide +kernel
theorem dX11_rowOrColumn_34 : decode cX11_rowOrColumn 34 = .ok (.goto (-30), 3) := by decide +kernel
theorem dX11_rowOrColumn_37 : decode cX11_rowOrColumn 37 = .ok (.iload_n 2, 1) := by decide +kernel
theorem dX11_rowOrColumn_38 : decode cX11_rowOrColumn 38 = .ok (.ireturn, 1) := by decide +kernel
theorem dX11_logical_0 : decode cX11_logical 0 = .ok (.iload_n 2, 1) := by decide +kernel
theorem dX11_logical_1 : decode cX11_logical 1 = .ok (.aload_n 0, 1) := by decide +kernel
theorem dX11_logical_2 : decode cX11_logical 2 = .ok (.iload_n 1, 1) := by decide +kernel
theorem dX11_logical_3 : decode cX11_logical 3 = .ok (.ifCond .ne 7, 3) := by decide +kernel
theorem dX11_logical_6 : decode cX11_logical 6 = .ok (.iconst 1, 1) := by decide +kernel
theorem dX11_logical_7 : decode cX11_logical 7 = .ok (.goto 4, 3) := by decide +kernel
theorem dX11_logical_10 : decode cX11_logical 10 = .ok (.iconst 0, 1) := by decide +kernel
theorem dX11_logical_11 : decode cX11_logical 11 = .ok (.invokevirtual 173, 3) := by decide +kernel
theorem dX11_logical_14 : decode cX11_logical 14 = .ok (.iand, 1) := by decide +kernel
theorem dX11_logical_15 : decode cX11_logical 15 = .ok (.invokestatic 169, 3) := by decide +kernel
theorem dX11_logical_18 : decode cX11_logical 18 = .ok (.iconst 1, 1) := by decide +kernel
theorem dX11_logical_19 : decode cX11_logical 19 = .ok (.iand, 1) := by decide +kernel
theorem dX11_logical_20 : decode cX11_logical 20 = .ok (.ireturn, 1) := by decide +kernel
theorem dX11_layer_0 : decode cX11_layer 0 = .ok (.iload_n 2, 1) := by decide +kernel
theorem dX11_layer_1 : decode cX11_layer 1 = .ok (.aload_n 0, 1) := by decide +kernel
theorem dX11_layer_2 : decode cX11_layer 2 = .ok (.getfield 13, 3) := by decide +kernel
theorem dX11_layer_5 : decode cX11_layer 5 = .ok (.iconst 1, 1) := by decide +kernel
theorem dX11_layer_6 : decode cX11_layer 6 = .ok (.iaload, 1) := by decide +kernel
theorem dX11_layer_7 : decode cX11_layer 7 = .ok (.if_icmp .ge 20, 3) := by decide +kernel
theorem dX11_layer_10 : decode cX11_layer 10 = .ok (.aload_n 0, 1) := by decide +kernel
theorem dX11_layer_11 : decode cX11_layer 11 = .ok (.getfield 13, 3) := by decide +kernel
theorem dX11_layer_14 : decode cX11_layer 14 = .ok (.bipush 6, 2) := by decide +kernel
theorem dX11_layer_16 : decode cX11_layer 16 = .ok (.bipush 8, 2) := by decide +kernel
theorem dX11_layer_18 : decode cX11_layer 18 = .ok (.iload_n 1, 1) := by decide +kernel
theorem dX11_layer_19 : decode cX11_layer 19 = .ok (.imul, 1) := by decide +kernel
theorem dX11_layer_20 : decode cX11_layer 20 = .ok (.iadd, 1) := by decide +kernel
theorem dX11_layer_21 : decode cX11_layer 21 = .ok (.iload_n 2, 1) := by decide +kernel
theorem dX11_layer_22 : decode cX11_layer 22 = .ok (.iadd, 1) := by decide +kernel
theorem dX11_layer_23 : decode cX11_layer 23 = .ok (.iaload, 1) := by decide +kernel
theorem dX11_layer_24 : decode cX11_layer 24 = .ok (.goto 16, 3) := by decide +kernel
theorem dX11_layer_27 : decode cX11_layer 27 = .ok (.aload_n 0, 1) := by decide +kernel
theorem dX11_layer_28 : decode cX11_layer 28 = .ok (.iload_n 1, 1) := by decide +kernel
theorem dX11_layer_29 : decode cX11_layer 29 = .ok (.aload_n 0, 1) := by decide +kernel
theorem dX11_layer_30 : decode cX11_layer 30 = .ok (.getfield 13, 3) := by decide +kernel
theorem dX11_layer_33 : decode cX11_layer 33 = .ok (.iconst 2, 1) := by decide +kernel
theorem dX11_layer_34 : decode cX11_layer 34 = .ok (.iload_n 1, 1) := by decide +kernel
theorem dX11_layer_35 : decode cX11_layer 35 = .ok (.iadd, 1) := by decide +kernel
theorem dX11_layer_36 : decode cX11_layer 36 = .ok (.iaload, 1) := by decide +kernel
theorem dX11_layer_37 : decode cX11_layer 37 = .ok (.invokevirtual 177, 3) := by decide +kernel
theorem dX11_layer_40 : decode cX11_layer 40 = .ok (.ireturn, 1) := by decide +kernel
theorem dX11_round_0 : decode cX11_round 0 = .ok (.iconst 0, 1) := by decide +kernel
theorem dX11_round_1 : decode cX11_round 1 = .ok (.istore_n 1, 1) := by decide +kernel
theorem dX11_round_2 : decode cX11_round 2 = .ok (.iload_n 1, 1) := by decide +kernel
theorem dX11_round_3 : decode cX11_round 3 = .ok (.iconst 2, 1) := by decide +kernel
theorem dX11_round_4 : decode cX11_round 4 = .ok (.if_icmp .ge 59, 3) := by decide +kernel
theorem dX11_round_7 : decode cX11_round 7 = .ok (.aload_n 0, 1) := by decide +kernel
theorem dX11_round_8 : decode cX11_round 8 = .ok (.getfield 13, 3) := by decide +kernel
theorem dX11_round_11 : decode cX11_round 11 = .ok (.bipush 6, 2) := by decide +kernel
theorem dX11_round_13 : decode cX11_round 13 = .ok (.bipush 8, 2) := by decide +kernel
theorem dX11_round_15 : decode cX11_round 15 = .ok (.iload_n 1, 1) := by decide +kernel
theorem dX11_round_16 : decode cX11_round 16 = .ok (.imul, 1) := by decide +kernel
theorem dX11_round_17 : decode cX11_round 17 = .ok (.iadd, 1) := by decide +kernel
theorem dX11_round_18 : decode cX11_round 18 = .ok (.aload_n 0, 1) := by decide +kernel
theorem dX11_round_19 : decode cX11_round 19 = .ok (.getfield 13, 3) := by decide +kernel
theorem dX11_round_22 : decode cX11_round 22 = .ok (.iconst 1, 1) := by decide +kernel
theorem dX11_round_23 : decode cX11_round 23 = .ok (.iaload, 1) := by decide +kernel
theorem dX11_round_24 : decode cX11_round 24 = .ok (.iadd, 1) := by decide +kernel
theorem dX11_round_25 : decode cX11_round 25 = .ok (.aload_n 0, 1) := by decide +kernel
theorem dX11_round_26 : decode cX11_round 26 = .ok (.iload_n 1, 1) := by decide +kernel
theorem dX11_round_27 : decode cX11_round 27 = .ok (.aload_n 0, 1) := by decide +kernel
theorem dX11_round_28 : decode cX11_round 28 = .ok (.getfield 13, 3) := by decide +kernel
theorem dX11_round_31 : decode cX11_round 31 = .ok (.iconst 2, 1) := by decide +kernel
theorem dX11_round_32 : decode cX11_round 32 = .ok (.iload_n 1, 1) := by decide +kernel
theorem dX11_round_33 : decode cX11_round 33 = .ok (.iadd, 1) := by decide +kernel
theorem dX11_round_34 : decode cX11_round 34 = .ok (.iaload, 1) := by decide +kernel
theorem dX11_round_35 : decode cX11_round 35 = .ok (.invokevirtual 177, 3) := by decide +kernel
theorem dX11_round_38 : decode cX11_round 38 = .ok (.aload_n 0, 1) := by decide +kernel
theorem dX11_round_39 : decode cX11_round 39 = .ok (.getfield 13, 3) := by decide +kernel
theorem dX11_round_42 : decode cX11_round 42 = .ok (.iconst 4, 1) := by decide +kernel
theorem dX11_round_43 : decode cX11_round 43 = .ok (.iload_n 1, 1) := by decide +kernel
theorem dX11_round_44 : decode cX11_round 44 = .ok (.iadd, 1) := by decide +kernel
theorem dX11_round_45 : decode cX11_round 45 = .ok (.iaload, 1) := by decide +kernel
theorem dX11_round_46 : decode cX11_round 46 = .ok (.ixor, 1) := by decide +kernel
theorem dX11_round_47 : decode cX11_round 47 = .ok (.iastore, 1) := by decide +kernel
theorem dX11_round_48 : decode cX11_round 48 = .ok (.aload_n 0, 1) := by decide +kernel
theorem dX11_round_49 : decode cX11_round 49 = .ok (.getfield 13, 3) := by decide +kernel
theorem dX11_round_52 : decode cX11_round 52 = .ok (.iconst 4, 1) := by decide +kernel
theorem dX11_round_53 : decode cX11_round 53 = .ok (.iload_n 1, 1) := by decide +kernel
theorem dX11_round_54 : decode cX11_round 54 = .ok (.iadd, 1) := by decide +kernel
theorem dX11_round_55 : decode cX11_round 55 = .ok (.iconst 0, 1) := by decide +kernel
theorem dX11_round_56 : decode cX11_round 56 = .ok (.iastore, 1) := by decide +kernel
theorem dX11_round_57 : decode cX11_round 57 = .ok (.iinc 1 1, 3) := by decide +kernel
theorem dX11_round_60 : decode cX11_round 60 = .ok (.goto (-58), 3) := by decide +kernel
theorem dX11_round_63 : decode cX11_round 63 = .ok (.aload_n 0, 1) := by decide +kernel
theorem dX11_round_64 : decode cX11_round 64 = .ok (.getfield 13, 3) := by decide +kernel
theorem dX11_round_67 : decode cX11_round 67 = .ok (.iconst 1, 1) := by decide +kernel
theorem dX11_round_68 : decode cX11_round 68 = .ok (.dup2, 1) := by decide +kernel
theorem dX11_round_69 : decode cX11_round 69 = .ok (.iaload, 1) := by decide +kernel
theorem dX11_round_70 : decode cX11_round 70 = .ok (.iconst 1, 1) := by decide +kernel
theorem dX11_round_71 : decode cX11_round 71 = .ok (.iadd, 1) := by decide +kernel
theorem dX11_round_72 : decode cX11_round 72 = .ok (.iastore, 1) := by decide +kernel
theorem dX11_round_73 : decode cX11_round 73 = .ok (.return_, 1) := by decide +kernel
theorem dX11_copies_0 : decode cX11_copies 0 = .ok (.iconst 0, 1) := by decide +kernel
theorem dX11_copies_1 : decode cX11_copies 1 = .ok (.istore 5, 2) := by decide +kernel
theorem dX11_copies_3 : decode cX11_copies 3 = .ok (.iload 5, 2) := by decide +kernel
theorem dX11_copies_5 : decode cX11_copies 5 = .ok (.bipush 71, 2) := by decide +kernel
theorem dX11_copies_7 : decode cX11_copies 7 = .ok (.if_icmp .ge 22, 3) := by decide +kernel
theorem dX11_copies_10 : decode cX11_copies 10 = .ok (.aload_n 3, 1) := by decide +kernel
theorem dX11_copies_11 : decode cX11_copies 11 = .ok (.iload 4, 2) := by decide +kernel
theorem dX11_copies_13 : decode cX11_copies 13 = .ok (.iload 5, 2) := by decide +kernel
theorem dX11_copies_15 : decode cX11_copies 15 = .ok (.iadd, 1) := by decide +kernel
theorem dX11_copies_16 : decode cX11_copies 16 = .ok (.aload_n 1, 1) := by decide +kernel
theorem dX11_copies_17 : decode cX11_copies 17 = .ok (.iload_n 2, 1) := by decide +kernel
theorem dX11_copies_18 : decode cX11_copies 18 = .ok (.iload 5, 2) := by decide +kernel
theorem dX11_copies_20 : decode cX11_copies 20 = .ok (.iadd, 1) := by decide +kernel
theorem dX11_copies_21 : decode cX11_copies 21 = .ok (.iaload, 1) := by decide +kernel
theorem dX11_copies_22 : decode cX11_copies 22 = .ok (.iastore, 1) := by decide +kernel
theorem dX11_copies_23 : decode cX11_copies 23 = .ok (.iinc 5 1, 3) := by decide +kernel
theorem dX11_copies_26 : decode cX11_copies 26 = .ok (.goto (-23), 3) := by decide +kernel
theorem dX11_copies_29 : decode cX11_copies 29 = .ok (.return_, 1) := by decide +kernel
theorem dX11_keeps_0 : decode cX11_keeps 0 = .ok (.aload_n 0, 1) := by decide +kernel
theorem dX11_keeps_1 : decode cX11_keeps 1 = .ok (.getfield 180, 3) := by decide +kernel
theorem dX11_keeps_4 : decode cX11_keeps 4 = .ok (.bipush 8, 2) := by decide +kernel
theorem dX11_keeps_6 : decode cX11_keeps 6 = .ok (.if_icmp .ne 43, 3) := by decide +kernel
theorem dX11_keeps_9 : decode cX11_keeps 9 = .ok (.iconst 0, 1) := by decide +kernel
theorem dX11_keeps_10 : decode cX11_keeps 10 = .ok (.istore_n 1, 1) := by decide +kernel
theorem dX11_keeps_11 : decode cX11_keeps 11 = .ok (.iload_n 1, 1) := by decide +kernel
theorem dX11_keeps_12 : decode cX11_keeps 12 = .ok (.sipush 497, 3) := by decide +kernel
theorem dX11_keeps_15 : decode cX11_keeps 15 = .ok (.if_icmp .ge 24, 3) := by decide +kernel
theorem dX11_keeps_18 : decode cX11_keeps 18 = .ok (.aload_n 0, 1) := by decide +kernel
theorem dX11_keeps_19 : decode cX11_keeps 19 = .ok (.getfield 20, 3) := by decide +kernel
theorem dX11_keeps_22 : decode cX11_keeps 22 = .ok (.iload_n 1, 1) := by decide +kernel
theorem dX11_keeps_23 : decode cX11_keeps 23 = .ok (.aload_n 0, 1) := by decide +kernel
theorem dX11_keeps_24 : decode cX11_keeps 24 = .ok (.getfield 20, 3) := by decide +kernel
theorem dX11_keeps_27 : decode cX11_keeps 27 = .ok (.iload_n 1, 1) := by decide +kernel
theorem dX11_keeps_28 : decode cX11_keeps 28 = .ok (.bipush 71, 2) := by decide +kernel
theorem dX11_keeps_30 : decode cX11_keeps 30 = .ok (.iadd, 1) := by decide +kernel
theorem dX11_keeps_31 : decode cX11_keeps 31 = .ok (.iaload, 1) := by decide +kernel
theorem dX11_keeps_32 : decode cX11_keeps 32 = .ok (.iastore, 1) := by decide +kernel
theorem dX11_keeps_33 : decode cX11_keeps 33 = .ok (.iinc 1 1, 3) := by decide +kernel
theorem dX11_keeps_36 : decode cX11_keeps 36 = .ok (.goto (-25), 3) := by decide +kernel
theorem dX11_keeps_39 : decode cX11_keeps 39 = .ok (.aload_n 0, 1) := by decide +kernel
theorem dX11_keeps_40 : decode cX11_keeps 40 = .ok (.dup, 1) := by decide +kernel
theorem dX11_keeps_41 : decode cX11_keeps 41 = .ok (.getfield 180, 3) := by decide +kernel
theorem dX11_keeps_44 : decode cX11_keeps 44 = .ok (.iconst 1, 1) := by decide +kernel
theorem dX11_keeps_45 : decode cX11_keeps 45 = .ok (.isub, 1) := by decide +kernel
theorem dX11_keeps_46 : decode cX11_keeps 46 = .ok (.putfield 180, 3) := by decide +kernel
theorem dX11_keeps_49 : decode cX11_keeps 49 = .ok (.aload_n 0, 1) := by decide +kernel
theorem dX11_keeps_50 : decode cX11_keeps 50 = .ok (.aload_n 0, 1) := by decide +kernel
theorem dX11_keeps_51 : decode cX11_keeps 51 = .ok (.getfield 13, 3) := by decide +kernel
theorem dX11_keeps_54 : decode cX11_keeps 54 = .ok (.iconst 0, 1) := by decide +kernel
theorem dX11_keeps_55 : decode cX11_keeps 55 = .ok (.aload_n 0, 1) := by decide +kernel
theorem dX11_keeps_56 : decode cX11_keeps 56 = .ok (.getfield 20, 3) := by decide +kernel
theorem dX11_keeps_59 : decode cX11_keeps 59 = .ok (.bipush 71, 2) := by decide +kernel
theorem dX11_keeps_61 : decode cX11_keeps 61 = .ok (.aload_n 0, 1) := by decide +kernel
theorem dX11_keeps_62 : decode cX11_keeps 62 = .ok (.getfield 180, 3) := by decide +kernel
theorem dX11_keeps_65 : decode cX11_keeps 65 = .ok (.imul, 1) := by decide +kernel
theorem dX11_keeps_66 : decode cX11_keeps 66 = .ok (.invokevirtual 183, 3) := by decide +kernel
theorem dX11_keeps_69 : decode cX11_keeps 69 = .ok (.aload_n 0, 1) := by decide +kernel
theorem dX11_keeps_70 : decode cX11_keeps 70 = .ok (.dup, 1) := by decide +kernel
theorem dX11_keeps_71 : decode cX11_keeps 71 = .ok (.getfield 180, 3) := by decide +kernel
theorem dX11_keeps_74 : decode cX11_keeps 74 = .ok (.iconst 1, 1) := by decide +kernel
theorem dX11_keeps_75 : decode cX11_keeps 75 = .ok (.iadd, 1) := by decide +kernel
theorem dX11_keeps_76 : decode cX11_keeps 76 = .ok (.putfield 180, 3) := by decide +kernel
theorem dX11_keeps_79 : decode cX11_keeps 79 = .ok (.return_, 1) := by decide +kernel
theorem dX11_undo_0 : decode cX11_undo 0 = .ok (.aload_n 0, 1) := by decide +kernel
theorem dX11_undo_1 : decode cX11_undo 1 = .ok (.iconst 0, 1) := by decide +kernel
theorem dX11_undo_2 : decode cX11_undo 2 = .ok (.putfield 1, 3) := by decide +kernel
theorem dX11_undo_5 : decode cX11_undo 5 = .ok (.aload_n 0, 1) := by decide +kernel
theorem dX11_undo_6 : decode cX11_undo 6 = .ok (.getfield 180, 3) := by decide +kernel
theorem dX11_undo_9 : decode cX11_undo 9 = .ok (.ifCond .ne 5, 3) := by decide +kernel
theorem dX11_undo_12 : decode cX11_undo 12 = .ok (.iconst (-1), 1) := by decide +kernel
theorem dX11_undo_13 : decode cX11_undo 13 = .ok (.ireturn, 1) := by decide +kernel
theorem dX11_undo_14 : decode cX11_undo 14 = .ok (.aload_n 0, 1) := by decide +kernel
theorem dX11_undo_15 : decode cX11_undo 15 = .ok (.dup, 1) := by decide +kernel
theorem dX11_undo_16 : decode cX11_undo 16 = .ok (.getfield 180, 3) := by decide +kernel
theorem dX11_undo_19 : decode cX11_undo 19 = .ok (.iconst 1, 1) := by decide +kernel
theorem dX11_undo_20 : decode cX11_undo 20 = .ok (.isub, 1) := by decide +kernel
theorem dX11_undo_21 : decode cX11_undo 21 = .ok (.putfield 180, 3) := by decide +kernel
theorem dX11_undo_24 : decode cX11_undo 24 = .ok (.aload_n 0, 1) := by decide +kernel
theorem dX11_undo_25 : decode cX11_undo 25 = .ok (.aload_n 0, 1) := by decide +kernel
theorem dX11_undo_26 : decode cX11_undo 26 = .ok (.getfield 20, 3) := by decide +kernel
theorem dX11_undo_29 : decode cX11_undo 29 = .ok (.bipush 71, 2) := by decide +kernel
theorem dX11_undo_31 : decode cX11_undo 31 = .ok (.aload_n 0, 1) := by decide +kernel
theorem dX11_undo_32 : decode cX11_undo 32 = .ok (.getfield 180, 3) := by decide +kernel
theorem dX11_undo_35 : decode cX11_undo 35 = .ok (.imul, 1) := by decide +kernel
theorem dX11_undo_36 : decode cX11_undo 36 = .ok (.aload_n 0, 1) := by decide +kernel
theorem dX11_undo_37 : decode cX11_undo 37 = .ok (.getfield 13, 3) := by decide +kernel
theorem dX11_undo_40 : decode cX11_undo 40 = .ok (.iconst 0, 1) := by decide +kernel
theorem dX11_undo_41 : decode cX11_undo 41 = .ok (.invokevirtual 183, 3) := by decide +kernel
theorem dX11_undo_44 : decode cX11_undo 44 = .ok (.aload_n 0, 1) := by decide +kernel
theorem dX11_undo_45 : decode cX11_undo 45 = .ok (.getfield 180, 3) := by decide +kernel
theorem dX11_undo_48 : decode cX11_undo 48 = .ok (.ireturn, 1) := by decide +kernel
theorem dX11_image_0 : decode cX11_image 0 = .ok (.aload_n 0, 1) := by decide +kernel
theorem dX11_image_1 : decode cX11_image 1 = .ok (.iconst 0, 1) := by decide +kernel
theorem dX11_image_2 : decode cX11_image 2 = .ok (.putfield 1, 3) := by decide +kernel
theorem dX11_image_5 : decode cX11_image 5 = .ok (.iload_n 1, 1) := by decide +kernel
theorem dX11_image_6 : decode cX11_image 6 = .ok (.iconst 0, 1) := by decide +kernel
theorem dX11_image_7 : decode cX11_image 7 = .ok (.iconst 1, 1) := by decide +kernel
theorem dX11_image_8 : decode cX11_image 8 = .ok (.invokestatic 144, 3) := by decide +kernel
theorem dX11_image_11 : decode cX11_image 11 = .ok (.ifCond .ne 5, 3) := by decide +kernel
theorem dX11_image_14 : decode cX11_image 14 = .ok (.iconst 0, 1) := by decide +kernel
theorem dX11_image_15 : decode cX11_image 15 = .ok (.ireturn, 1) := by decide +kernel
theorem dX11_image_16 : decode cX11_image 16 = .ok (.aload_n 0, 1) := by decide +kernel
theorem dX11_image_17 : decode cX11_image 17 = .ok (.aload_n 0, 1) := by decide +kernel
theorem dX11_image_18 : decode cX11_image 18 = .ok (.getfield 13, 3) := by decide +kernel
theorem dX11_image_21 : decode cX11_image 21 = .ok (.iconst 0, 1) := by decide +kernel
theorem dX11_image_22 : decode cX11_image 22 = .ok (.aload_n 0, 1) := by decide +kernel
theorem dX11_image_23 : decode cX11_image 23 = .ok (.getfield 17, 3) := by decide +kernel
theorem dX11_image_26 : decode cX11_image 26 = .ok (.bipush 71, 2) := by decide +kernel
theorem dX11_image_28 : decode cX11_image 28 = .ok (.iload_n 1, 1) := by decide +kernel
theorem dX11_image_29 : decode cX11_image 29 = .ok (.imul, 1) := by decide +kernel
theorem dX11_image_30 : decode cX11_image 30 = .ok (.invokevirtual 183, 3) := by decide +kernel
theorem dX11_image_33 : decode cX11_image 33 = .ok (.aload_n 0, 1) := by decide +kernel
theorem dX11_image_34 : decode cX11_image 34 = .ok (.getfield 26, 3) := by decide +kernel
theorem dX11_image_37 : decode cX11_image 37 = .ok (.iload_n 1, 1) := by decide +kernel
theorem dX11_image_38 : decode cX11_image 38 = .ok (.iconst 1, 1) := by decide +kernel
theorem dX11_image_39 : decode cX11_image 39 = .ok (.bastore, 1) := by decide +kernel
theorem dX11_image_40 : decode cX11_image 40 = .ok (.iconst 1, 1) := by decide +kernel
theorem dX11_image_41 : decode cX11_image 41 = .ok (.ireturn, 1) := by decide +kernel
theorem dX11_restore_0 : decode cX11_restore 0 = .ok (.aload_n 0, 1) := by decide +kernel
theorem dX11_restore_1 : decode cX11_restore 1 = .ok (.iconst 0, 1) := by decide +kernel
theorem dX11_restore_2 : decode cX11_restore 2 = .ok (.putfield 1, 3) := by decide +kernel
theorem dX11_restore_5 : decode cX11_restore 5 = .ok (.iload_n 1, 1) := by decide +kernel
theorem dX11_restore_6 : decode cX11_restore 6 = .ok (.iconst 0, 1) := by decide +kernel
theorem dX11_restore_7 : decode cX11_restore 7 = .ok (.iconst 1, 1) := by decide +kernel
theorem dX11_restore_8 : decode cX11_restore 8 = .ok (.invokestatic 144, 3) := by decide +kernel
theorem dX11_restore_11 : decode cX11_restore 11 = .ok (.ifCond .eq 12, 3) := by decide +kernel
theorem dX11_restore_14 : decode cX11_restore 14 = .ok (.aload_n 0, 1) := by decide +kernel
theorem dX11_restore_15 : decode cX11_restore 15 = .ok (.getfield 26, 3) := by decide +kernel
theorem dX11_restore_18 : decode cX11_restore 18 = .ok (.iload_n 1, 1) := by decide +kernel
theorem dX11_restore_19 : decode cX11_restore 19 = .ok (.baload, 1) := by decide +kernel
theorem dX11_restore_20 : decode cX11_restore 20 = .ok (.ifCond .ne 5, 3) := by decide +kernel
theorem dX11_restore_23 : decode cX11_restore 23 = .ok (.iconst 0, 1) := by decide +kernel
theorem dX11_restore_24 : decode cX11_restore 24 = .ok (.ireturn, 1) := by decide +kernel
theorem dX11_restore_25 : decode cX11_restore 25 = .ok (.aload_n 0, 1) := by decide +kernel
theorem dX11_restore_26 : decode cX11_restore 26 = .ok (.aload_n 0, 1) := by decide +kernel
theorem dX11_restore_27 : decode cX11_restore 27 = .ok (.getfield 17, 3) := by decide +kernel
theorem dX11_restore_30 : decode cX11_restore 30 = .ok (.bipush 71, 2) := by decide +kernel
theorem dX11_restore_32 : decode cX11_restore 32 = .ok (.iload_n 1, 1) := by decide +kernel
theorem dX11_restore_33 : decode cX11_restore 33 = .ok (.imul, 1) := by decide +kernel
theorem dX11_restore_34 : decode cX11_restore 34 = .ok (.aload_n 0, 1) := by decide +kernel
theorem dX11_restore_35 : decode cX11_restore 35 = .ok (.getfield 13, 3) := by decide +kernel
theorem dX11_restore_38 : decode cX11_restore 38 = .ok (.iconst 0, 1) := by decide +kernel
theorem dX11_restore_39 : decode cX11_restore 39 = .ok (.invokevirtual 183, 3) := by decide +kernel
theorem dX11_restore_42 : decode cX11_restore 42 = .ok (.aload_n 0, 1) := by decide +kernel
theorem dX11_restore_43 : decode cX11_restore 43 = .ok (.invokevirtual 131, 3) := by decide +kernel
theorem dX11_restore_46 : decode cX11_restore 46 = .ok (.aload_n 0, 1) := by decide +kernel
theorem dX11_restore_47 : decode cX11_restore 47 = .ok (.iconst 0, 1) := by decide +kernel
theorem dX11_restore_48 : decode cX11_restore 48 = .ok (.putfield 180, 3) := by decide +kernel
theorem dX11_restore_51 : decode cX11_restore 51 = .ok (.iconst 1, 1) := by decide +kernel
theorem dX11_restore_52 : decode cX11_restore 52 = .ok (.ireturn, 1) := by decide +kernel
theorem dX11_code_0 : decode cX11_code 0 = .ok (.aload_n 0, 1) := by decide +kernel
theorem dX11_code_1 : decode cX11_code 1 = .ok (.iconst 0, 1) := by decide +kernel
theorem dX11_code_2 : decode cX11_code 2 = .ok (.putfield 1, 3) := by decide +kernel
theorem dX11_code_5 : decode cX11_code 5 = .ok (.iload_n 1, 1) := by decide +kernel
theorem dX11_code_6 : decode cX11_code 6 = .ok (.iconst 3, 1) := by decide +kernel
theorem dX11_code_7 : decode cX11_code 7 = .ok (.if_icmp .eq 10, 3) := by decide +kernel
theorem dX11_code_10 : decode cX11_code 10 = .ok (.iload_n 1, 1) := by decide +kernel
theorem dX11_code_11 : decode cX11_code 11 = .ok (.iconst 5, 1) := by decide +kernel
theorem dX11_code_12 : decode cX11_code 12 = .ok (.if_icmp .eq 5, 3) := by decide +kernel
theorem dX11_code_15 : decode cX11_code 15 = .ok (.iconst (-1), 1) := by decide +kernel
theorem dX11_code_16 : decode cX11_code 16 = .ok (.ireturn, 1) := by decide +kernel
theorem dX11_code_17 : decode cX11_code 17 = .ok (.aload_n 0, 1) := by decide +kernel
theorem dX11_code_18 : decode cX11_code 18 = .ok (.iload_n 1, 1) := by decide +kernel
theorem dX11_code_19 : decode cX11_code 19 = .ok (.invokevirtual 127, 3) := by decide +kernel
theorem dX11_code_22 : decode cX11_code 22 = .ok (.aload_n 0, 1) := by decide +kernel
theorem dX11_code_23 : decode cX11_code 23 = .ok (.iconst 0, 1) := by decide +kernel
theorem dX11_code_24 : decode cX11_code 24 = .ok (.putfield 180, 3) := by decide +kernel
theorem dX11_code_27 : decode cX11_code 27 = .ok (.aload_n 0, 1) := by decide +kernel
theorem dX11_code_28 : decode cX11_code 28 = .ok (.invokevirtual 148, 3) := by decide +kernel
theorem dX11_code_31 : decode cX11_code 31 = .ok (.ireturn, 1) := by decide +kernel
theorem dX11_peek_0 : decode cX11_peek 0 = .ok (.aload_n 0, 1) := by decide +kernel
theorem dX11_peek_1 : decode cX11_peek 1 = .ok (.getfield 187, 3) := by decide +kernel
theorem dX11_peek_4 : decode cX11_peek 4 = .ok (.aload_n 0, 1) := by decide +kernel
theorem dX11_peek_5 : decode cX11_peek 5 = .ok (.getfield 190, 3) := by decide +kernel
theorem dX11_peek_8 : decode cX11_peek 8 = .ok (.if_icmp .ge 30, 3) := by decide +kernel
theorem dX11_peek_11 : decode cX11_peek 11 = .ok (.aload_n 0, 1) := by decide +kernel
theorem dX11_peek_12 : decode cX11_peek 12 = .ok (.getfield 30, 3) := by decide +kernel
theorem dX11_peek_15 : decode cX11_peek 15 = .ok (.aload_n 0, 1) := by decide +kernel
theorem dX11_peek_16 : decode cX11_peek 16 = .ok (.getfield 187, 3) := by decide +kernel
theorem dX11_peek_19 : decode cX11_peek 19 = .ok (.baload, 1) := by decide +kernel
theorem dX11_peek_20 : decode cX11_peek 20 = .ok (.bipush 32, 2) := by decide +kernel
theorem dX11_peek_22 : decode cX11_peek 22 = .ok (.if_icmp .ne 16, 3) := by decide +kernel
theorem dX11_peek_25 : decode cX11_peek 25 = .ok (.aload_n 0, 1) := by decide +kernel
theorem dX11_peek_26 : decode cX11_peek 26 = .ok (.dup, 1) := by decide +kernel
theorem dX11_peek_27 : decode cX11_peek 27 = .ok (.getfield 187, 3) := by decide +kernel
theorem dX11_peek_30 : decode cX11_peek 30 = .ok (.iconst 1, 1) := by decide +kernel
theorem dX11_peek_31 : decode cX11_peek 31 = .ok (.iadd, 1) := by decide +kernel
theorem dX11_peek_32 : decode cX11_peek 32 = .ok (.putfield 187, 3) := by decide +kernel
theorem dX11_peek_35 : decode cX11_peek 35 = .ok (.goto (-35), 3) := by decide +kernel
theorem dX11_peek_38 : decode cX11_peek 38 = .ok (.aload_n 0, 1) := by decide +kernel
theorem dX11_peek_39 : decode cX11_peek 39 = .ok (.getfield 187, 3) := by decide +kernel
theorem dX11_peek_42 : decode cX11_peek 42 = .ok (.aload_n 0, 1) := by decide +kernel
theorem dX11_peek_43 : decode cX11_peek 43 = .ok (.getfield 190, 3) := by decide +kernel
theorem dX11_peek_46 : decode cX11_peek 46 = .ok (.if_icmp .ge 19, 3) := by decide +kernel
theorem dX11_peek_49 : decode cX11_peek 49 = .ok (.aload_n 0, 1) := by decide +kernel
theorem dX11_peek_50 : decode cX11_peek 50 = .ok (.getfield 30, 3) := by decide +kernel
theorem dX11_peek_53 : decode cX11_peek 53 = .ok (.aload_n 0, 1) := by decide +kernel
theorem dX11_peek_54 : decode cX11_peek 54 = .ok (.getfield 187, 3) := by decide +kernel
theorem dX11_peek_57 : decode cX11_peek 57 = .ok (.baload, 1) := by decide +kernel
theorem dX11_peek_58 : decode cX11_peek 58 = .ok (.sipush 255, 3) := by decide +kernel
theorem dX11_peek_61 : decode cX11_peek 61 = .ok (.iand, 1) := by decide +kernel
theorem dX11_peek_62 : decode cX11_peek 62 = .ok (.goto 4, 3) := by decide +kernel
theorem dX11_peek_65 : decode cX11_peek 65 = .ok (.iconst (-1), 1) := by decide +kernel
theorem dX11_peek_66 : decode cX11_peek 66 = .ok (.ireturn, 1) := by decide +kernel
theorem dX11_bad_0 : decode cX11_bad 0 = .ok (.aload_n 0, 1) := by decide +kernel
theorem dX11_bad_1 : decode cX11_bad 1 = .ok (.iload_n 1, 1) := by decide +kernel
theorem dX11_bad_2 : decode cX11_bad 2 = .ok (.putfield 193, 3) := by decide +kernel
theorem dX11_bad_5 : decode cX11_bad 5 = .ok (.aload_n 0, 1) := by decide +kernel
theorem dX11_bad_6 : decode cX11_bad 6 = .ok (.iload_n 2, 1) := by decide +kernel
theorem dX11_bad_7 : decode cX11_bad 7 = .ok (.putfield 196, 3) := by decide +kernel
theorem dX11_bad_10 : decode cX11_bad 10 = .ok (.iconst 0, 1) := by decide +kernel
theorem dX11_bad_11 : decode cX11_bad 11 = .ok (.ireturn, 1) := by decide +kernel
theorem dX11_wordHere_0 : decode cX11_wordHere 0 = .ok (.aload_n 0, 1) := by decide +kernel
theorem dX11_wordHere_1 : decode cX11_wordHere 1 = .ok (.getfield 187, 3) := by decide +kernel
theorem dX11_wordHere_4 : decode cX11_wordHere 4 = .ok (.istore_n 1, 1) := by decide +kernel
theorem dX11_wordHere_5 : decode cX11_wordHere 5 = .ok (.aload_n 0, 1) := by decide +kernel
theorem dX11_wordHere_6 : decode cX11_wordHere 6 = .ok (.invokevirtual 199, 3) := by decide +kernel
theorem dX11_wordHere_9 : decode cX11_wordHere 9 = .ok (.pop, 1) := by decide +kernel
theorem dX11_wordHere_10 : decode cX11_wordHere 10 = .ok (.aload_n 0, 1) := by decide +kernel
theorem dX11_wordHere_11 : decode cX11_wordHere 11 = .ok (.getfield 187, 3) := by decide +kernel
theorem dX11_wordHere_14 : decode cX11_wordHere 14 = .ok (.istore_n 1, 1) := by decide +kernel
theorem dX11_wordHere_15 : decode cX11_wordHere 15 = .ok (.iload_n 1, 1) := by decide +kernel
theorem dX11_wordHere_16 : decode cX11_wordHere 16 = .ok (.istore_n 2, 1) := by decide +kernel
theorem dX11_wordHere_17 : decode cX11_wordHere 17 = .ok (.iload_n 2, 1) := by decide +kernel
theorem dX11_wordHere_18 : decode cX11_wordHere 18 = .ok (.aload_n 0, 1) := by decide +kernel
theorem dX11_wordHere_19 : decode cX11_wordHere 19 = .ok (.getfield 190, 3) := by decide +kernel
theorem dX11_wordHere_22 : decode cX11_wordHere 22 = .ok (.if_icmp .ge 31, 3) := by decide +kernel
theorem dX11_wordHere_25 : decode cX11_wordHere 25 = .ok (.aload_n 0, 1) := by decide +kernel
theorem dX11_wordHere_26 : decode cX11_wordHere 26 = .ok (.getfield 30, 3) := by decide +kernel
theorem dX11_wordHere_29 : decode cX11_wordHere 29 = .ok (.iload_n 2, 1) := by decide +kernel
theorem dX11_wordHere_30 : decode cX11_wordHere 30 = .ok (.baload, 1) := by decide +kernel
theorem dX11_wordHere_31 : decode cX11_wordHere 31 = .ok (.bipush 97, 2) := by decide +kernel
theorem dX11_wordHere_33 : decode cX11_wordHere 33 = .ok (.if_icmp .lt 20, 3) := by decide +kernel
theorem dX11_wordHere_36 : decode cX11_wordHere 36 = .ok (.aload_n 0, 1) := by decide +kernel
theorem dX11_wordHere_37 : decode cX11_wordHere 37 = .ok (.getfield 30, 3) := by decide +kernel
theorem dX11_wordHere_40 : decode cX11_wordHere 40 = .ok (.iload_n 2, 1) := by decide +kernel
theorem dX11_wordHere_41 : decode cX11_wordHere 41 = .ok (.baload, 1) := by decide +kernel
theorem dX11_wordHere_42 : decode cX11_wordHere 42 = .ok (.bipush 122, 2) := by decide +kernel
theorem dX11_wordHere_44 : decode cX11_wordHere 44 = .ok (.if_icmp .gt 9, 3) := by decide +kernel
theorem dX11_wordHere_47 : decode cX11_wordHere 47 = .ok (.iinc 2 1, 3) := by decide +kernel
theorem dX11_wordHere_50 : decode cX11_wordHere 50 = .ok (.goto (-33), 3) := by decide +kernel
theorem dX11_wordHere_53 : decode cX11_wordHere 53 = .ok (.iconst 0, 1) := by decide +kernel
theorem dX11_wordHere_54 : decode cX11_wordHere 54 = .ok (.istore_n 3, 1) := by decide +kernel
theorem dX11_wordHere_55 : decode cX11_wordHere 55 = .ok (.iload_n 1, 1) := by decide +kernel
theorem dX11_wordHere_56 : decode cX11_wordHere 56 = .ok (.istore 4, 2) := by decide +kernel
theorem dX11_wordHere_58 : decode cX11_wordHere 58 = .ok (.iconst 1, 1) := by decide +kernel
theorem dX11_wordHere_59 : decode cX11_wordHere 59 = .ok (.istore 5, 2) := by decide +kernel
theorem dX11_wordHere_61 : decode cX11_wordHere 61 = .ok (.iconst 0, 1) := by decide +kernel
theorem dX11_wordHere_62 : decode cX11_wordHere 62 = .ok (.istore 6, 2) := by decide +kernel
theorem dX11_wordHere_64 : decode cX11_wordHere 64 = .ok (.iload 6, 2) := by decide +kernel
theorem dX11_wordHere_66 : decode cX11_wordHere 66 = .ok (.getstatic 202, 3) := by decide +kernel
theorem dX11_wordHere_69 : decode cX11_wordHere 69 = .ok (.arraylength, 1) := by decide +kernel
theorem dX11_wordHere_70 : decode cX11_wordHere 70 = .ok (.if_icmp .ge 87, 3) := by decide +kernel
theorem dX11_wordHere_73 : decode cX11_wordHere 73 = .ok (.getstatic 202, 3) := by decide +kernel
theorem dX11_wordHere_76 : decode cX11_wordHere 76 = .ok (.iload 6, 2) := by decide +kernel
theorem dX11_wordHere_78 : decode cX11_wordHere 78 = .ok (.baload, 1) := by decide +kernel
theorem dX11_wordHere_79 : decode cX11_wordHere 79 = .ok (.bipush 32, 2) := by decide +kernel
theorem dX11_wordHere_81 : decode cX11_wordHere 81 = .ok (.if_icmp .ne 33, 3) := by decide +kernel
theorem dX11_wordHere_84 : decode cX11_wordHere 84 = .ok (.iload 5, 2) := by decide +kernel
theorem dX11_wordHere_86 : decode cX11_wordHere 86 = .ok (.ifCond .eq 16, 3) := by decide +kernel
theorem dX11_wordHere_89 : decode cX11_wordHere 89 = .ok (.iload 4, 2) := by decide +kernel
theorem dX11_wordHere_91 : decode cX11_wordHere 91 = .ok (.iload_n 2, 1) := by decide +kernel
theorem dX11_wordHere_92 : decode cX11_wordHere 92 = .ok (.if_icmp .ne 10, 3) := by decide +kernel
theorem dX11_wordHere_95 : decode cX11_wordHere 95 = .ok (.aload_n 0, 1) := by decide +kernel
theorem dX11_wordHere_96 : decode cX11_wordHere 96 = .ok (.iload_n 2, 1) := by decide +kernel
theorem dX11_wordHere_97 : decode cX11_wordHere 97 = .ok (.putfield 205, 3) := by decide +kernel
theorem dX11_wordHere_100 : decode cX11_wordHere 100 = .ok (.iload_n 3, 1) := by decide +kernel
theorem dX11_wordHere_101 : decode cX11_wordHere 101 = .ok (.ireturn, 1) := by decide +kernel
theorem dX11_wordHere_102 : decode cX11_wordHere 102 = .ok (.iinc 3 1, 3) := by decide +kernel
theorem dX11_wordHere_105 : decode cX11_wordHere 105 = .ok (.iload_n 1, 1) := by decide +kernel
theorem dX11_wordHere_106 : decode cX11_wordHere 106 = .ok (.istore 4, 2) := by decide +kernel
theorem dX11_wordHere_108 : decode cX11_wordHere 108 = .ok (.iconst 1, 1) := by decide +kernel
theorem dX11_wordHere_109 : decode cX11_wordHere 109 = .ok (.istore 5, 2) := by decide +kernel
theorem dX11_wordHere_111 : decode cX11_wordHere 111 = .ok (.goto 40, 3) := by decide +kernel
theorem dX11_wordHere_114 : decode cX11_wordHere 114 = .ok (.iload 5, 2) := by decide +kernel
theorem dX11_wordHere_116 : decode cX11_wordHere 116 = .ok (.ifCond .eq 29, 3) := by decide +kernel
theorem dX11_wordHere_119 : decode cX11_wordHere 119 = .ok (.iload 4, 2) := by decide +kernel
theorem dX11_wordHere_121 : decode cX11_wordHere 121 = .ok (.iload_n 2, 1) := by decide +kernel
theorem dX11_wordHere_122 : decode cX11_wordHere 122 = .ok (.if_icmp .ge 23, 3) := by decide +kernel
theorem dX11_wordHere_125 : decode cX11_wordHere 125 = .ok (.aload_n 0, 1) := by decide +kernel
theorem dX11_wordHere_126 : decode cX11_wordHere 126 = .ok (.getfield 30, 3) := by decide +kernel
theorem dX11_wordHere_129 : decode cX11_wordHere 129 = .ok (.iload 4, 2) := by decide +kernel
theorem dX11_wordHere_131 : decode cX11_wordHere 131 = .ok (.baload, 1) := by decide +kernel
theorem dX11_wordHere_132 : decode cX11_wordHere 132 = .ok (.getstatic 202, 3) := by decide +kernel
theorem dX11_wordHere_135 : decode cX11_wordHere 135 = .ok (.iload 6, 2) := by decide +kernel
theorem dX11_wordHere_137 : decode cX11_wordHere 137 = .ok (.baload, 1) := by decide +kernel
theorem dX11_wordHere_138 : decode cX11_wordHere 138 = .ok (.if_icmp .ne 7, 3) := by decide +kernel
theorem dX11_wordHere_141 : decode cX11_wordHere 141 = .ok (.iconst 1, 1) := by decide +kernel
theorem dX11_wordHere_142 : decode cX11_wordHere 142 = .ok (.goto 4, 3) := by decide +kernel
theorem dX11_wordHere_145 : decode cX11_wordHere 145 = .ok (.iconst 0, 1) := by decide +kernel
theorem dX11_wordHere_146 : decode cX11_wordHere 146 = .ok (.istore 5, 2) := by decide +kernel
theorem dX11_wordHere_148 : decode cX11_wordHere 148 = .ok (.iinc 4 1, 3) := by decide +kernel
theorem dX11_wordHere_151 : decode cX11_wordHere 151 = .ok (.iinc 6 1, 3) := by decide +kernel
theorem dX11_wordHere_154 : decode cX11_wordHere 154 = .ok (.goto (-90), 3) := by decide +kernel
theorem dX11_wordHere_157 : decode cX11_wordHere 157 = .ok (.iconst (-1), 1) := by decide +kernel
theorem dX11_wordHere_158 : decode cX11_wordHere 158 = .ok (.ireturn, 1) := by decide +kernel
theorem dX11_number_0 : decode cX11_number 0 = .ok (.aload_n 0, 1) := by decide +kernel
theorem dX11_number_1 : decode cX11_number 1 = .ok (.invokevirtual 199, 3) := by decide +kernel
theorem dX11_number_4 : decode cX11_number 4 = .ok (.istore 4, 2) := by decide +kernel
theorem dX11_number_6 : decode cX11_number 6 = .ok (.iload 4, 2) := by decide +kernel
theorem dX11_number_8 : decode cX11_number 8 = .ok (.bipush 48, 2) := by decide +kernel
theorem dX11_number_10 : decode cX11_number 10 = .ok (.if_icmp .lt 10, 3) := by decide +kernel
theorem dX11_number_13 : decode cX11_number 13 = .ok (.iload 4, 2) := by decide +kernel
theorem dX11_number_15 : decode cX11_number 15 = .ok (.bipush 57, 2) := by decide +kernel
theorem dX11_number_17 : decode cX11_number 17 = .ok (.if_icmp .le 13, 3) := by decide +kernel
theorem dX11_number_20 : decode cX11_number 20 = .ok (.aload_n 0, 1) := by decide +kernel
theorem dX11_number_21 : decode cX11_number 21 = .ok (.iconst 1, 1) := by decide +kernel
theorem dX11_number_22 : decode cX11_number 22 = .ok (.aload_n 0, 1) := by decide +kernel
theorem dX11_number_23 : decode cX11_number 23 = .ok (.getfield 187, 3) := by decide +kernel
theorem dX11_number_26 : decode cX11_number 26 = .ok (.invokevirtual 208, 3) := by decide +kernel
theorem dX11_number_29 : decode cX11_number 29 = .ok (.ireturn, 1) := by decide +kernel
theorem dX11_number_30 : decode cX11_number 30 = .ok (.aload_n 0, 1) := by decide +kernel
theorem dX11_number_31 : decode cX11_number 31 = .ok (.getfield 187, 3) := by decide +kernel
theorem dX11_number_34 : decode cX11_number 34 = .ok (.istore 5, 2) := by decide +kernel
theorem dX11_number_36 : decode cX11_number 36 = .ok (.iconst 0, 1) := by decide +kernel
theorem dX11_number_37 : decode cX11_number 37 = .ok (.istore 6, 2) := by decide +kernel
theorem dX11_number_39 : decode cX11_number 39 = .ok (.aload_n 0, 1) := by decide +kernel
theorem dX11_number_40 : decode cX11_number 40 = .ok (.getfield 187, 3) := by decide +kernel
theorem dX11_number_43 : decode cX11_number 43 = .ok (.aload_n 0, 1) := by decide +kernel
theorem dX11_number_44 : decode cX11_number 44 = .ok (.getfield 190, 3) := by decide +kernel
theorem dX11_number_47 : decode cX11_number 47 = .ok (.if_icmp .ge 76, 3) := by decide +kernel
theorem dX11_number_50 : decode cX11_number 50 = .ok (.aload_n 0, 1) := by decide +kernel
theorem dX11_number_51 : decode cX11_number 51 = .ok (.getfield 30, 3) := by decide +kernel
theorem dX11_number_54 : decode cX11_number 54 = .ok (.aload_n 0, 1) := by decide +kernel
theorem dX11_number_55 : decode cX11_number 55 = .ok (.getfield 187, 3) := by decide +kernel
theorem dX11_number_58 : decode cX11_number 58 = .ok (.baload, 1) := by decide +kernel
theorem dX11_number_59 : decode cX11_number 59 = .ok (.bipush 48, 2) := by decide +kernel
theorem dX11_number_61 : decode cX11_number 61 = .ok (.if_icmp .lt 62, 3) := by decide +kernel
theorem dX11_number_64 : decode cX11_number 64 = .ok (.aload_n 0, 1) := by decide +kernel
theorem dX11_number_65 : decode cX11_number 65 = .ok (.getfield 30, 3) := by decide +kernel
theorem dX11_number_68 : decode cX11_number 68 = .ok (.aload_n 0, 1) := by decide +kernel
theorem dX11_number_69 : decode cX11_number 69 = .ok (.getfield 187, 3) := by decide +kernel
theorem dX11_number_72 : decode cX11_number 72 = .ok (.baload, 1) := by decide +kernel
theorem dX11_number_73 : decode cX11_number 73 = .ok (.bipush 57, 2) := by decide +kernel
theorem dX11_number_75 : decode cX11_number 75 = .ok (.if_icmp .gt 48, 3) := by decide +kernel
theorem dX11_number_78 : decode cX11_number 78 = .ok (.iload 6, 2) := by decide +kernel
theorem dX11_number_80 : decode cX11_number 80 = .ok (.bipush 99, 2) := by decide +kernel
theorem dX11_number_82 : decode cX11_number 82 = .ok (.if_icmp .le 8, 3) := by decide +kernel
theorem dX11_number_85 : decode cX11_number 85 = .ok (.iload 6, 2) := by decide +kernel
theorem dX11_number_87 : decode cX11_number 87 = .ok (.goto 21, 3) := by decide +kernel
theorem dX11_number_90 : decode cX11_number 90 = .ok (.bipush 10, 2) := by decide +kernel
theorem dX11_number_92 : decode cX11_number 92 = .ok (.iload 6, 2) := by decide +kernel
theorem dX11_number_94 : decode cX11_number 94 = .ok (.imul, 1) := by decide +kernel
theorem dX11_number_95 : decode cX11_number 95 = .ok (.aload_n 0, 1) := by decide +kernel
theorem dX11_number_96 : decode cX11_number 96 = .ok (.getfield 30, 3) := by decide +kernel
theorem dX11_number_99 : decode cX11_number 99 = .ok (.aload_n 0, 1) := by decide +kernel
theorem dX11_number_100 : decode cX11_number 100 = .ok (.getfield 187, 3) := by decide +kernel
theorem dX11_number_103 : decode cX11_number 103 = .ok (.baload, 1) := by decide +kernel
theorem dX11_number_104 : decode cX11_number 104 = .ok (.iadd, 1) := by decide +kernel
theorem dX11_number_105 : decode cX11_number 105 = .ok (.bipush 48, 2) := by decide +kernel
theorem dX11_number_107 : decode cX11_number 107 = .ok (.isub, 1) := by decide +kernel
theorem dX11_number_108 : decode cX11_number 108 = .ok (.istore 6, 2) := by decide +kernel
theorem dX11_number_110 : decode cX11_number 110 = .ok (.aload_n 0, 1) := by decide +kernel
theorem dX11_number_111 : decode cX11_number 111 = .ok (.dup, 1) := by decide +kernel
theorem dX11_number_112 : decode cX11_number 112 = .ok (.getfield 187, 3) := by decide +kernel
theorem dX11_number_115 : decode cX11_number 115 = .ok (.iconst 1, 1) := by decide +kernel
theorem dX11_number_116 : decode cX11_number 116 = .ok (.iadd, 1) := by decide +kernel
theorem dX11_number_117 : decode cX11_number 117 = .ok (.putfield 187, 3) := by decide +kernel
theorem dX11_number_120 : decode cX11_number 120 = .ok (.goto (-81), 3) := by decide +kernel
theorem dX11_number_123 : decode cX11_number 123 = .ok (.aload_n 0, 1) := by decide +kernel
theorem dX11_number_124 : decode cX11_number 124 = .ok (.getfield 46, 3) := by decide +kernel
theorem dX11_number_127 : decode cX11_number 127 = .ok (.iload_n 1, 1) := by decide +kernel
theorem dX11_number_128 : decode cX11_number 128 = .ok (.iload 6, 2) := by decide +kernel
theorem dX11_number_130 : decode cX11_number 130 = .ok (.iastore, 1) := by decide +kernel
theorem dX11_number_131 : decode cX11_number 131 = .ok (.iload 6, 2) := by decide +kernel
theorem dX11_number_133 : decode cX11_number 133 = .ok (.iload_n 2, 1) := by decide +kernel
theorem dX11_number_134 : decode cX11_number 134 = .ok (.iload_n 3, 1) := by decide +kernel
theorem dX11_number_135 : decode cX11_number 135 = .ok (.invokestatic 144, 3) := by decide +kernel
theorem dX11_number_138 : decode cX11_number 138 = .ok (.ifCond .ne 13, 3) := by decide +kernel
theorem dX11_number_141 : decode cX11_number 141 = .ok (.aload_n 0, 1) := by decide +kernel
theorem dX11_number_142 : decode cX11_number 142 = .ok (.iconst 2, 1) := by decide +kernel
theorem dX11_number_143 : decode cX11_number 143 = .ok (.iload 5, 2) := by decide +kernel
theorem dX11_number_145 : decode cX11_number 145 = .ok (.invokevirtual 208, 3) := by decide +kernel
theorem dX11_number_148 : decode cX11_number 148 = .ok (.ifCond .eq 7, 3) := by decide +kernel
theorem dX11_number_151 : decode cX11_number 151 = .ok (.iconst 1, 1) := by decide +kernel
theorem dX11_number_152 : decode cX11_number 152 = .ok (.goto 4, 3) := by decide +kernel
theorem dX11_number_155 : decode cX11_number 155 = .ok (.iconst 0, 1) := by decide +kernel
theorem dX11_number_156 : decode cX11_number 156 = .ok (.ireturn, 1) := by decide +kernel
theorem dX11_kind_0 : decode cX11_kind 0 = .ok (.aload_n 0, 1) := by decide +kernel
theorem dX11_kind_1 : decode cX11_kind 1 = .ok (.invokevirtual 211, 3) := by decide +kernel
theorem dX11_kind_4 : decode cX11_kind 4 = .ok (.istore_n 2, 1) := by decide +kernel
theorem dX11_kind_5 : decode cX11_kind 5 = .ok (.iload_n 2, 1) := by decide +kernel
theorem dX11_kind_6 : decode cX11_kind 6 = .ok (.ifCond .eq 18, 3) := by decide +kernel
theorem dX11_kind_9 : decode cX11_kind 9 = .ok (.iload_n 2, 1) := by decide +kernel
theorem dX11_kind_10 : decode cX11_kind 10 = .ok (.iconst 1, 1) := by decide +kernel
theorem dX11_kind_11 : decode cX11_kind 11 = .ok (.if_icmp .eq 13, 3) := by decide +kernel
theorem dX11_kind_14 : decode cX11_kind 14 = .ok (.aload_n 0, 1) := by decide +kernel
theorem dX11_kind_15 : decode cX11_kind 15 = .ok (.iconst 1, 1) := by decide +kernel
theorem dX11_kind_16 : decode cX11_kind 16 = .ok (.aload_n 0, 1) := by decide +kernel
theorem dX11_kind_17 : decode cX11_kind 17 = .ok (.getfield 187, 3) := by decide +kernel
theorem dX11_kind_20 : decode cX11_kind 20 = .ok (.invokevirtual 208, 3) := by decide +kernel
theorem dX11_kind_23 : decode cX11_kind 23 = .ok (.ireturn, 1) := by decide +kernel
theorem dX11_kind_24 : decode cX11_kind 24 = .ok (.aload_n 0, 1) := by decide +kernel
theorem dX11_kind_25 : decode cX11_kind 25 = .ok (.getfield 46, 3) := by decide +kernel
theorem dX11_kind_28 : decode cX11_kind 28 = .ok (.iload_n 1, 1) := by decide +kernel
theorem dX11_kind_29 : decode cX11_kind 29 = .ok (.iload_n 2, 1) := by decide +kernel
theorem dX11_kind_30 : decode cX11_kind 30 = .ok (.iastore, 1) := by decide +kernel
theorem dX11_kind_31 : decode cX11_kind 31 = .ok (.aload_n 0, 1) := by decide +kernel
theorem dX11_kind_32 : decode cX11_kind 32 = .ok (.aload_n 0, 1) := by decide +kernel
theorem dX11_kind_33 : decode cX11_kind 33 = .ok (.getfield 205, 3) := by decide +kernel
theorem dX11_kind_36 : decode cX11_kind 36 = .ok (.putfield 187, 3) := by decide +kernel
theorem dX11_kind_39 : decode cX11_kind 39 = .ok (.iconst 1, 1) := by decide +kernel
theorem dX11_kind_40 : decode cX11_kind 40 = .ok (.ireturn, 1) := by decide +kernel
theorem dX11_sign_0 : decode cX11_sign 0 = .ok (.aload_n 0, 1) := by decide +kernel
theorem dX11_sign_1 : decode cX11_sign 1 = .ok (.invokevirtual 199, 3) := by decide +kernel
theorem dX11_sign_4 : decode cX11_sign 4 = .ok (.iload_n 1, 1) := by decide +kernel
theorem dX11_sign_5 : decode cX11_sign 5 = .ok (.if_icmp .eq 13, 3) := by decide +kernel
theorem dX11_sign_8 : decode cX11_sign 8 = .ok (.aload_n 0, 1) := by decide +kernel
theorem dX11_sign_9 : decode cX11_sign 9 = .ok (.iconst 1, 1) := by decide +kernel
theorem dX11_sign_10 : decode cX11_sign 10 = .ok (.aload_n 0, 1) := by decide +kernel
theorem dX11_sign_11 : decode cX11_sign 11 = .ok (.getfield 187, 3) := by decide +kernel
theorem dX11_sign_14 : decode cX11_sign 14 = .ok (.invokevirtual 208, 3) := by decide +kernel
theorem dX11_sign_17 : decode cX11_sign 17 = .ok (.ireturn, 1) := by decide +kernel
theorem dX11_sign_18 : decode cX11_sign 18 = .ok (.aload_n 0, 1) := by decide +kernel
theorem dX11_sign_19 : decode cX11_sign 19 = .ok (.dup, 1) := by decide +kernel
theorem dX11_sign_20 : decode cX11_sign 20 = .ok (.getfield 187, 3) := by decide +kernel
theorem dX11_sign_23 : decode cX11_sign 23 = .ok (.iconst 1, 1) := by decide +kernel
theorem dX11_sign_24 : decode cX11_sign 24 = .ok (.iadd, 1) := by decide +kernel
theorem dX11_sign_25 : decode cX11_sign 25 = .ok (.putfield 187, 3) := by decide +kernel
theorem dX11_sign_28 : decode cX11_sign 28 = .ok (.iconst 1, 1) := by decide +kernel
theorem dX11_sign_29 : decode cX11_sign 29 = .ok (.ireturn, 1) := by decide +kernel
theorem dX11_step_0 : decode cX11_step 0 = .ok (.aload_n 0, 1) := by decide +kernel
theorem dX11_step_1 : decode cX11_step 1 = .ok (.invokevirtual 211, 3) := by decide +kernel
theorem dX11_step_4 : decode cX11_step 4 = .ok (.istore_n 1, 1) := by decide +kernel
theorem dX11_step_5 : decode cX11_step 5 = .ok (.iload_n 1, 1) := by decide +kernel
theorem dX11_step_6 : decode cX11_step 6 = .ok (.ifCond .ge 13, 3) := by decide +kernel
theorem dX11_step_9 : decode cX11_step 9 = .ok (.aload_n 0, 1) := by decide +kernel
theorem dX11_step_10 : decode cX11_step 10 = .ok (.iconst 1, 1) := by decide +kernel
theorem dX11_step_11 : decode cX11_step 11 = .ok (.aload_n 0, 1) := by decide +kernel
theorem dX11_step_12 : decode cX11_step 12 = .ok (.getfield 187, 3) := by decide +kernel
theorem dX11_step_15 : decode cX11_step 15 = .ok (.invokevirtual 208, 3) := by decide +kernel
theorem dX11_step_18 : decode cX11_step 18 = .ok (.ireturn, 1) := by decide +kernel
theorem dX11_step_19 : decode cX11_step 19 = .ok (.aload_n 0, 1) := by decide +kernel
theorem dX11_step_20 : decode cX11_step 20 = .ok (.getfield 214, 3) := by decide +kernel
theorem dX11_step_23 : decode cX11_step 23 = .ok (.bipush 30, 2) := by decide +kernel
theorem dX11_step_25 : decode cX11_step 25 = .ok (.if_icmp .ne 13, 3) := by decide +kernel
theorem dX11_step_28 : decode cX11_step 28 = .ok (.aload_n 0, 1) := by decide +kernel
theorem dX11_step_29 : decode cX11_step 29 = .ok (.iconst 3, 1) := by decide +kernel
theorem dX11_step_30 : decode cX11_step 30 = .ok (.aload_n 0, 1) := by decide +kernel
theorem dX11_step_31 : decode cX11_step 31 = .ok (.getfield 187, 3) := by decide +kernel
theorem dX11_step_34 : decode cX11_step 34 = .ok (.invokevirtual 208, 3) := by decide +kernel
theorem dX11_step_37 : decode cX11_step 37 = .ok (.ireturn, 1) := by decide +kernel
theorem dX11_step_38 : decode cX11_step 38 = .ok (.iload_n 1, 1) := by decide +kernel
theorem dX11_step_39 : decode cX11_step 39 = .ok (.bipush 7, 2) := by decide +kernel
theorem dX11_step_41 : decode cX11_step 41 = .ok (.if_icmp .ne 21, 3) := by decide +kernel
theorem dX11_step_44 : decode cX11_step 44 = .ok (.aload_n 0, 1) := by decide +kernel
theorem dX11_step_45 : decode cX11_step 45 = .ok (.getfield 217, 3) := by decide +kernel
theorem dX11_step_48 : decode cX11_step 48 = .ok (.iconst 2, 1) := by decide +kernel
theorem dX11_step_49 : decode cX11_step 49 = .ok (.if_icmp .ne 13, 3) := by decide +kernel
theorem dX11_step_52 : decode cX11_step 52 = .ok (.aload_n 0, 1) := by decide +kernel
theorem dX11_step_53 : decode cX11_step 53 = .ok (.iconst 4, 1) := by decide +kernel
theorem dX11_step_54 : decode cX11_step 54 = .ok (.aload_n 0, 1) := by decide +kernel
theorem dX11_step_55 : decode cX11_step 55 = .ok (.getfield 187, 3) := by decide +kernel
theorem dX11_step_58 : decode cX11_step 58 = .ok (.invokevirtual 208, 3) := by decide +kernel
theorem dX11_step_61 : decode cX11_step 61 = .ok (.ireturn, 1) := by decide +kernel
theorem dX11_step_62 : decode cX11_step 62 = .ok (.aload_n 0, 1) := by decide +kernel
theorem dX11_step_63 : decode cX11_step 63 = .ok (.aload_n 0, 1) := by decide +kernel
theorem dX11_step_64 : decode cX11_step 64 = .ok (.getfield 205, 3) := by decide +kernel
theorem dX11_step_67 : decode cX11_step 67 = .ok (.putfield 187, 3) := by decide +kernel
theorem dX11_step_70 : decode cX11_step 70 = .ok (.iconst 4, 1) := by decide +kernel
theorem dX11_step_71 : decode cX11_step 71 = .ok (.aload_n 0, 1) := by decide +kernel
theorem dX11_step_72 : decode cX11_step 72 = .ok (.getfield 214, 3) := by decide +kernel
theorem dX11_step_75 : decode cX11_step 75 = .ok (.imul, 1) := by decide +kernel
theorem dX11_step_76 : decode cX11_step 76 = .ok (.istore_n 2, 1) := by decide +kernel
theorem dX11_step_77 : decode cX11_step 77 = .ok (.aload_n 0, 1) := by decide +kernel
theorem dX11_step_78 : decode cX11_step 78 = .ok (.getfield 46, 3) := by decide +kernel
theorem dX11_step_81 : decode cX11_step 81 = .ok (.iload_n 2, 1) := by decide +kernel
theorem dX11_step_82 : decode cX11_step 82 = .ok (.iload_n 1, 1) := by decide +kernel
theorem dX11_step_83 : decode cX11_step 83 = .ok (.iastore, 1) := by decide +kernel
theorem dX11_step_84 : decode cX11_step 84 = .ok (.aload_n 0, 1) := by decide +kernel
theorem dX11_step_85 : decode cX11_step 85 = .ok (.dup, 1) := by decide +kernel
theorem dX11_step_86 : decode cX11_step 86 = .ok (.getfield 214, 3) := by decide +kernel
theorem dX11_step_89 : decode cX11_step 89 = .ok (.iconst 1, 1) := by decide +kernel
theorem dX11_step_90 : decode cX11_step 90 = .ok (.iadd, 1) := by decide +kernel
theorem dX11_step_91 : decode cX11_step 91 = .ok (.putfield 214, 3) := by decide +kernel
theorem dX11_step_94 : decode cX11_step 94 = .ok (.aload_n 0, 1) := by decide +kernel
theorem dX11_step_95 : decode cX11_step 95 = .ok (.invokevirtual 140, 3) := by decide +kernel
theorem dX11_step_98 : decode cX11_step 98 = .ok (.iconst 1, 1) := by decide +kernel
theorem dX11_step_99 : decode cX11_step 99 = .ok (.isub, 1) := by decide +kernel
theorem dX11_step_100 : decode cX11_step 100 = .ok (.istore_n 3, 1) := by decide +kernel
theorem dX11_step_101 : decode cX11_step 101 = .ok (.iload_n 1, 1) := by decide +kernel
theorem dX11_step_102 : decode cX11_step 102 = .ok (.tableswitch 186 3 7 #[34, 67, 69, 112, 158], 34) := by decide +kernel
theorem dX11_step_136 : decode cX11_step 136 = .ok (.aload_n 0, 1) := by decide +kernel
theorem dX11_step_137 : decode cX11_step 137 = .ok (.iload_n 2, 1) := by decide +kernel
theorem dX11_step_138 : decode cX11_step 138 = .ok (.iconst 1, 1) := by decide +kernel
theorem dX11_step_139 : decode cX11_step 139 = .ok (.iadd, 1) := by decide +kernel
theorem dX11_step_140 : decode cX11_step 140 = .ok (.invokevirtual 220, 3) := by decide +kernel
theorem dX11_step_143 : decode cX11_step 143 = .ok (.ifCond .eq 24, 3) := by decide +kernel
theorem dX11_step_146 : decode cX11_step 146 = .ok (.aload_n 0, 1) := by decide +kernel
theorem dX11_step_147 : decode cX11_step 147 = .ok (.iload_n 2, 1) := by decide +kernel
theorem dX11_step_148 : decode cX11_step 148 = .ok (.iconst 2, 1) := by decide +kernel
theorem dX11_step_149 : decode cX11_step 149 = .ok (.iadd, 1) := by decide +kernel
theorem dX11_step_150 : decode cX11_step 150 = .ok (.iconst 0, 1) := by decide +kernel
theorem dX11_step_151 : decode cX11_step 151 = .ok (.aload_n 0, 1) := by decide +kernel
theorem dX11_step_152 : decode cX11_step 152 = .ok (.getfield 151, 3) := by decide +kernel
theorem dX11_step_155 : decode cX11_step 155 = .ok (.iconst 1, 1) := by decide +kernel
theorem dX11_step_156 : decode cX11_step 156 = .ok (.isub, 1) := by decide +kernel
theorem dX11_step_157 : decode cX11_step 157 = .ok (.invokevirtual 223, 3) := by decide +kernel
theorem dX11_step_160 : decode cX11_step 160 = .ok (.ifCond .eq 7, 3) := by decide +kernel
theorem dX11_step_163 : decode cX11_step 163 = .ok (.iconst 1, 1) := by decide +kernel
theorem dX11_step_164 : decode cX11_step 164 = .ok (.goto 4, 3) := by decide +kernel
theorem dX11_step_167 : decode cX11_step 167 = .ok (.iconst 0, 1) := by decide +kernel
theorem dX11_step_168 : decode cX11_step 168 = .ok (.ireturn, 1) := by decide +kernel
theorem dX11_step_169 : decode cX11_step 169 = .ok (.iconst 1, 1) := by decide +kernel
theorem dX11_step_170 : decode cX11_step 170 = .ok (.ireturn, 1) := by decide +kernel
theorem dX11_step_171 : decode cX11_step 171 = .ok (.aload_n 0, 1) := by decide +kernel
theorem dX11_step_172 : decode cX11_step 172 = .ok (.iload_n 2, 1) := by decide +kernel
theorem dX11_step_173 : decode cX11_step 173 = .ok (.iconst 1, 1) := by decide +kernel
theorem dX11_step_174 : decode cX11_step 174 = .ok (.iadd, 1) := by decide +kernel
theorem dX11_step_175 : decode cX11_step 175 = .ok (.iconst 0, 1) := by decide +kernel
theorem dX11_step_176 : decode cX11_step 176 = .ok (.iload_n 3, 1) := by decide +kernel
theorem dX11_step_177 : decode cX11_step 177 = .ok (.invokevirtual 223, 3) := by decide +kernel
theorem dX11_step_180 : decode cX11_step 180 = .ok (.ifCond .eq 32, 3) := by decide +kernel
theorem dX11_step_183 : decode cX11_step 183 = .ok (.aload_n 0, 1) := by decide +kernel
theorem dX11_step_184 : decode cX11_step 184 = .ok (.iload_n 2, 1) := by decide +kernel
theorem dX11_step_185 : decode cX11_step 185 = .ok (.iconst 2, 1) := by decide +kernel
theorem dX11_step_186 : decode cX11_step 186 = .ok (.iadd, 1) := by decide +kernel
theorem dX11_step_187 : decode cX11_step 187 = .ok (.iconst 0, 1) := by decide +kernel
theorem dX11_step_188 : decode cX11_step 188 = .ok (.iload_n 3, 1) := by decide +kernel
theorem dX11_step_189 : decode cX11_step 189 = .ok (.invokevirtual 223, 3) := by decide +kernel
theorem dX11_step_192 : decode cX11_step 192 = .ok (.ifCond .eq 20, 3) := by decide +kernel
theorem dX11_step_195 : decode cX11_step 195 = .ok (.aload_n 0, 1) := by decide +kernel
theorem dX11_step_196 : decode cX11_step 196 = .ok (.iload_n 2, 1) := by decide +kernel
theorem dX11_step_197 : decode cX11_step 197 = .ok (.iconst 3, 1) := by decide +kernel
theorem dX11_step_198 : decode cX11_step 198 = .ok (.iadd, 1) := by decide +kernel
theorem dX11_step_199 : decode cX11_step 199 = .ok (.iconst 1, 1) := by decide +kernel
theorem dX11_step_200 : decode cX11_step 200 = .ok (.bipush 9, 2) := by decide +kernel
theorem dX11_step_202 : decode cX11_step 202 = .ok (.invokevirtual 223, 3) := by decide +kernel
theorem dX11_step_205 : decode cX11_step 205 = .ok (.ifCond .eq 7, 3) := by decide +kernel
theorem dX11_step_208 : decode cX11_step 208 = .ok (.iconst 1, 1) := by decide +kernel
theorem dX11_step_209 : decode cX11_step 209 = .ok (.goto 4, 3) := by decide +kernel
theorem dX11_step_212 : decode cX11_step 212 = .ok (.iconst 0, 1) := by decide +kernel
theorem dX11_step_213 : decode cX11_step 213 = .ok (.ireturn, 1) := by decide +kernel
theorem dX11_step_214 : decode cX11_step 214 = .ok (.aload_n 0, 1) := by decide +kernel
theorem dX11_step_215 : decode cX11_step 215 = .ok (.iload_n 2, 1) := by decide +kernel
theorem dX11_step_216 : decode cX11_step 216 = .ok (.iconst 1, 1) := by decide +kernel
theorem dX11_step_217 : decode cX11_step 217 = .ok (.iadd, 1) := by decide +kernel
theorem dX11_step_218 : decode cX11_step 218 = .ok (.invokevirtual 220, 3) := by decide +kernel
theorem dX11_step_221 : decode cX11_step 221 = .ok (.ifCond .eq 37, 3) := by decide +kernel
theorem dX11_step_224 : decode cX11_step 224 = .ok (.aload_n 0, 1) := by decide +kernel
theorem dX11_step_225 : decode cX11_step 225 = .ok (.iload_n 2, 1) := by decide +kernel
theorem dX11_step_226 : decode cX11_step 226 = .ok (.iconst 2, 1) := by decide +kernel
theorem dX11_step_227 : decode cX11_step 227 = .ok (.iadd, 1) := by decide +kernel
theorem dX11_step_228 : decode cX11_step 228 = .ok (.iconst 0, 1) := by decide +kernel
theorem dX11_step_229 : decode cX11_step 229 = .ok (.aload_n 0, 1) := by decide +kernel
theorem dX11_step_230 : decode cX11_step 230 = .ok (.getfield 151, 3) := by decide +kernel
theorem dX11_step_233 : decode cX11_step 233 = .ok (.iconst 1, 1) := by decide +kernel
theorem dX11_step_234 : decode cX11_step 234 = .ok (.isub, 1) := by decide +kernel
theorem dX11_step_235 : decode cX11_step 235 = .ok (.invokevirtual 223, 3) := by decide +kernel
theorem dX11_step_238 : decode cX11_step 238 = .ok (.ifCond .eq 20, 3) := by decide +kernel
theorem dX11_step_241 : decode cX11_step 241 = .ok (.aload_n 0, 1) := by decide +kernel
theorem dX11_step_242 : decode cX11_step 242 = .ok (.iload_n 2, 1) := by decide +kernel
theorem dX11_step_243 : decode cX11_step 243 = .ok (.iconst 3, 1) := by decide +kernel
theorem dX11_step_244 : decode cX11_step 244 = .ok (.iadd, 1) := by decide +kernel
theorem dX11_step_245 : decode cX11_step 245 = .ok (.iconst 1, 1) := by decide +kernel
theorem dX11_step_246 : decode cX11_step 246 = .ok (.bipush 9, 2) := by decide +kernel
theorem dX11_step_248 : decode cX11_step 248 = .ok (.invokevirtual 223, 3) := by decide +kernel
theorem dX11_step_251 : decode cX11_step 251 = .ok (.ifCond .eq 7, 3) := by decide +kernel
theorem dX11_step_254 : decode cX11_step 254 = .ok (.iconst 1, 1) := by decide +kernel
theorem dX11_step_255 : decode cX11_step 255 = .ok (.goto 4, 3) := by decide +kernel
theorem dX11_step_258 : decode cX11_step 258 = .ok (.iconst 0, 1) := by decide +kernel
theorem dX11_step_259 : decode cX11_step 259 = .ok (.ireturn, 1) := by decide +kernel
theorem dX11_step_260 : decode cX11_step 260 = .ok (.aload_n 0, 1) := by decide +kernel
theorem dX11_step_261 : decode cX11_step 261 = .ok (.iload_n 2, 1) := by decide +kernel
theorem dX11_step_262 : decode cX11_step 262 = .ok (.iconst 1, 1) := by decide +kernel
theorem dX11_step_263 : decode cX11_step 263 = .ok (.iadd, 1) := by decide +kernel
theorem dX11_step_264 : decode cX11_step 264 = .ok (.iconst 1, 1) := by decide +kernel
theorem dX11_step_265 : decode cX11_step 265 = .ok (.bipush 9, 2) := by decide +kernel
theorem dX11_step_267 : decode cX11_step 267 = .ok (.invokevirtual 223, 3) := by decide +kernel
theorem dX11_step_270 : decode cX11_step 270 = .ok (.ifCond .eq 16, 3) := by decide +kernel
theorem dX11_step_273 : decode cX11_step 273 = .ok (.aload_n 0, 1) := by decide +kernel
theorem dX11_step_274 : decode cX11_step 274 = .ok (.bipush 91, 2) := by decide +kernel
theorem dX11_step_276 : decode cX11_step 276 = .ok (.invokevirtual 226, 3) := by decide +kernel
theorem dX11_step_279 : decode cX11_step 279 = .ok (.ifCond .eq 7, 3) := by decide +kernel
theorem dX11_step_282 : decode cX11_step 282 = .ok (.iconst 1, 1) := by decide +kernel
theorem dX11_step_283 : decode cX11_step 283 = .ok (.goto 4, 3) := by decide +kernel
theorem dX11_step_286 : decode cX11_step 286 = .ok (.iconst 0, 1) := by decide +kernel
theorem dX11_step_287 : decode cX11_step 287 = .ok (.ireturn, 1) := by decide +kernel
theorem dX11_step_288 : decode cX11_step 288 = .ok (.aload_n 0, 1) := by decide +kernel
theorem dX11_step_289 : decode cX11_step 289 = .ok (.iload_n 2, 1) := by decide +kernel
theorem dX11_step_290 : decode cX11_step 290 = .ok (.iconst 1, 1) := by decide +kernel
theorem dX11_step_291 : decode cX11_step 291 = .ok (.iadd, 1) := by decide +kernel
theorem dX11_step_292 : decode cX11_step 292 = .ok (.iconst 0, 1) := by decide +kernel
theorem dX11_step_293 : decode cX11_step 293 = .ok (.iload_n 3, 1) := by decide +kernel
theorem dX11_step_294 : decode cX11_step 294 = .ok (.invokevirtual 223, 3) := by decide +kernel
theorem dX11_step_297 : decode cX11_step 297 = .ok (.ifCond .eq 19, 3) := by decide +kernel
theorem dX11_step_300 : decode cX11_step 300 = .ok (.aload_n 0, 1) := by decide +kernel
theorem dX11_step_301 : decode cX11_step 301 = .ok (.iload_n 2, 1) := by decide +kernel
theorem dX11_step_302 : decode cX11_step 302 = .ok (.iconst 2, 1) := by decide +kernel
theorem dX11_step_303 : decode cX11_step 303 = .ok (.iadd, 1) := by decide +kernel
theorem dX11_step_304 : decode cX11_step 304 = .ok (.iconst 0, 1) := by decide +kernel
theorem dX11_step_305 : decode cX11_step 305 = .ok (.iload_n 3, 1) := by decide +kernel
theorem dX11_step_306 : decode cX11_step 306 = .ok (.invokevirtual 223, 3) := by decide +kernel
theorem dX11_step_309 : decode cX11_step 309 = .ok (.ifCond .eq 7, 3) := by decide +kernel
theorem dX11_step_312 : decode cX11_step 312 = .ok (.iconst 1, 1) := by decide +kernel
theorem dX11_step_313 : decode cX11_step 313 = .ok (.goto 4, 3) := by decide +kernel
theorem dX11_step_316 : decode cX11_step 316 = .ok (.iconst 0, 1) := by decide +kernel
theorem dX11_step_317 : decode cX11_step 317 = .ok (.ireturn, 1) := by decide +kernel
theorem dX11_reads_0 : decode cX11_reads 0 = .ok (.aload_n 0, 1) := by decide +kernel
theorem dX11_reads_1 : decode cX11_reads 1 = .ok (.iconst 0, 1) := by decide +kernel
theorem dX11_reads_2 : decode cX11_reads 2 = .ok (.putfield 187, 3) := by decide +kernel
theorem dX11_reads_5 : decode cX11_reads 5 = .ok (.aload_n 0, 1) := by decide +kernel
theorem dX11_reads_6 : decode cX11_reads 6 = .ok (.iconst 0, 1) := by decide +kernel
theorem dX11_reads_7 : decode cX11_reads 7 = .ok (.putfield 214, 3) := by decide +kernel
theorem dX11_reads_10 : decode cX11_reads 10 = .ok (.aload_n 0, 1) := by decide +kernel
theorem dX11_reads_11 : decode cX11_reads 11 = .ok (.iconst 0, 1) := by decide +kernel
theorem dX11_reads_12 : decode cX11_reads 12 = .ok (.putfield 217, 3) := by decide +kernel
theorem dX11_reads_15 : decode cX11_reads 15 = .ok (.aload_n 0, 1) := by decide +kernel
theorem dX11_reads_16 : decode cX11_reads 16 = .ok (.invokevirtual 199, 3) := by decide +kernel
theorem dX11_reads_19 : decode cX11_reads 19 = .ok (.istore_n 1, 1) := by decide +kernel
theorem dX11_reads_20 : decode cX11_reads 20 = .ok (.iload_n 1, 1) := by decide +kernel
theorem dX11_reads_21 : decode cX11_reads 21 = .ok (.iconst (-1), 1) := by decide +kernel
theorem dX11_reads_22 : decode cX11_reads 22 = .ok (.if_icmp .ne 28, 3) := by decide +kernel
theorem dX11_reads_25 : decode cX11_reads 25 = .ok (.aload_n 0, 1) := by decide +kernel
theorem dX11_reads_26 : decode cX11_reads 26 = .ok (.getfield 217, 3) := by decide +kernel
theorem dX11_reads_29 : decode cX11_reads 29 = .ok (.ifCond .eq 15, 3) := by decide +kernel
theorem dX11_reads_32 : decode cX11_reads 32 = .ok (.aload_n 0, 1) := by decide +kernel
theorem dX11_reads_33 : decode cX11_reads 33 = .ok (.iconst 1, 1) := by decide +kernel
theorem dX11_reads_34 : decode cX11_reads 34 = .ok (.aload_n 0, 1) := by decide +kernel
theorem dX11_reads_35 : decode cX11_reads 35 = .ok (.getfield 190, 3) := by decide +kernel
theorem dX11_reads_38 : decode cX11_reads 38 = .ok (.invokevirtual 208, 3) := by decide +kernel
theorem dX11_reads_41 : decode cX11_reads 41 = .ok (.ifCond .eq 7, 3) := by decide +kernel
theorem dX11_reads_44 : decode cX11_reads 44 = .ok (.iconst 1, 1) := by decide +kernel
theorem dX11_reads_45 : decode cX11_reads 45 = .ok (.goto 4, 3) := by decide +kernel
theorem dX11_reads_48 : decode cX11_reads 48 = .ok (.iconst 0, 1) := by decide +kernel
theorem dX11_reads_49 : decode cX11_reads 49 = .ok (.ireturn, 1) := by decide +kernel
theorem dX11_reads_50 : decode cX11_reads 50 = .ok (.iload_n 1, 1) := by decide +kernel
theorem dX11_reads_51 : decode cX11_reads 51 = .ok (.bipush 93, 2) := by decide +kernel
theorem dX11_reads_53 : decode cX11_reads 53 = .ok (.if_icmp .ne 63, 3) := by decide +kernel
theorem dX11_reads_56 : decode cX11_reads 56 = .ok (.aload_n 0, 1) := by decide +kernel
theorem dX11_reads_57 : decode cX11_reads 57 = .ok (.getfield 217, 3) := by decide +kernel
theorem dX11_reads_60 : decode cX11_reads 60 = .ok (.ifCond .le 56, 3) := by decide +kernel
theorem dX11_reads_63 : decode cX11_reads 63 = .ok (.aload_n 0, 1) := by decide +kernel
theorem dX11_reads_64 : decode cX11_reads 64 = .ok (.dup, 1) := by decide +kernel
theorem dX11_reads_65 : decode cX11_reads 65 = .ok (.getfield 187, 3) := by decide +kernel
theorem dX11_reads_68 : decode cX11_reads 68 = .ok (.iconst 1, 1) := by decide +kernel
theorem dX11_reads_69 : decode cX11_reads 69 = .ok (.iadd, 1) := by decide +kernel
theorem dX11_reads_70 : decode cX11_reads 70 = .ok (.putfield 187, 3) := by decide +kernel
theorem dX11_reads_73 : decode cX11_reads 73 = .ok (.aload_n 0, 1) := by decide +kernel
theorem dX11_reads_74 : decode cX11_reads 74 = .ok (.dup, 1) := by decide +kernel
theorem dX11_reads_75 : decode cX11_reads 75 = .ok (.getfield 217, 3) := by decide +kernel
theorem dX11_reads_78 : decode cX11_reads 78 = .ok (.iconst 1, 1) := by decide +kernel
theorem dX11_reads_79 : decode cX11_reads 79 = .ok (.isub, 1) := by decide +kernel
theorem dX11_reads_80 : decode cX11_reads 80 = .ok (.putfield 217, 3) := by decide +kernel
theorem dX11_reads_83 : decode cX11_reads 83 = .ok (.aload_n 0, 1) := by decide +kernel
theorem dX11_reads_84 : decode cX11_reads 84 = .ok (.getfield 46, 3) := by decide +kernel
theorem dX11_reads_87 : decode cX11_reads 87 = .ok (.iconst 4, 1) := by decide +kernel
theorem dX11_reads_88 : decode cX11_reads 88 = .ok (.aload_n 0, 1) := by decide +kernel
theorem dX11_reads_89 : decode cX11_reads 89 = .ok (.getfield 49, 3) := by decide +kernel
theorem dX11_reads_92 : decode cX11_reads 92 = .ok (.aload_n 0, 1) := by decide +kernel
theorem dX11_reads_93 : decode cX11_reads 93 = .ok (.getfield 217, 3) := by decide +kernel
theorem dX11_reads_96 : decode cX11_reads 96 = .ok (.iaload, 1) := by decide +kernel
theorem dX11_reads_97 : decode cX11_reads 97 = .ok (.imul, 1) := by decide +kernel
theorem dX11_reads_98 : decode cX11_reads 98 = .ok (.iconst 2, 1) := by decide +kernel
theorem dX11_reads_99 : decode cX11_reads 99 = .ok (.iadd, 1) := by decide +kernel
theorem dX11_reads_100 : decode cX11_reads 100 = .ok (.aload_n 0, 1) := by decide +kernel
theorem dX11_reads_101 : decode cX11_reads 101 = .ok (.getfield 214, 3) := by decide +kernel
theorem dX11_reads_104 : decode cX11_reads 104 = .ok (.iastore, 1) := by decide +kernel
theorem dX11_reads_105 : decode cX11_reads 105 = .ok (.aload_n 0, 1) := by decide +kernel
theorem dX11_reads_106 : decode cX11_reads 106 = .ok (.bipush 59, 2) := by decide +kernel
theorem dX11_reads_108 : decode cX11_reads 108 = .ok (.invokevirtual 226, 3) := by decide +kernel
theorem dX11_reads_111 : decode cX11_reads 111 = .ok (.ifCond .ne (-96), 3) := by decide +kernel
theorem dX11_reads_114 : decode cX11_reads 114 = .ok (.iconst 0, 1) := by decide +kernel
theorem dX11_reads_115 : decode cX11_reads 115 = .ok (.ireturn, 1) := by decide +kernel
theorem dX11_reads_116 : decode cX11_reads 116 = .ok (.aload_n 0, 1) := by decide +kernel
theorem dX11_reads_117 : decode cX11_reads 117 = .ok (.getfield 214, 3) := by decide +kernel
theorem dX11_reads_120 : decode cX11_reads 120 = .ok (.istore_n 2, 1) := by decide +kernel
theorem dX11_reads_121 : decode cX11_reads 121 = .ok (.aload_n 0, 1) := by decide +kernel
theorem dX11_reads_122 : decode cX11_reads 122 = .ok (.invokevirtual 229, 3) := by decide +kernel
theorem dX11_reads_125 : decode cX11_reads 125 = .ok (.ifCond .ne 5, 3) := by decide +kernel
theorem dX11_reads_128 : decode cX11_reads 128 = .ok (.iconst 0, 1) := by decide +kernel
theorem dX11_reads_129 : decode cX11_reads 129 = .ok (.ireturn, 1) := by decide +kernel
theorem dX11_reads_130 : decode cX11_reads 130 = .ok (.aload_n 0, 1) := by decide +kernel
theorem dX11_reads_131 : decode cX11_reads 131 = .ok (.getfield 46, 3) := by decide +kernel
theorem dX11_reads_134 : decode cX11_reads 134 = .ok (.iconst 4, 1) := by decide +kernel
theorem dX11_reads_135 : decode cX11_reads 135 = .ok (.iload_n 2, 1) := by decide +kernel
theorem dX11_reads_136 : decode cX11_reads 136 = .ok (.imul, 1) := by decide +kernel
theorem dX11_reads_137 : decode cX11_reads 137 = .ok (.iaload, 1) := by decide +kernel
theorem dX11_reads_138 : decode cX11_reads 138 = .ok (.bipush 7, 2) := by decide +kernel
theorem dX11_reads_140 : decode cX11_reads 140 = .ok (.if_icmp .ne 26, 3) := by decide +kernel
theorem dX11_reads_143 : decode cX11_reads 143 = .ok (.aload_n 0, 1) := by decide +kernel
theorem dX11_reads_144 : decode cX11_reads 144 = .ok (.getfield 49, 3) := by decide +kernel
theorem dX11_reads_147 : decode cX11_reads 147 = .ok (.aload_n 0, 1) := by decide +kernel
theorem dX11_reads_148 : decode cX11_reads 148 = .ok (.getfield 217, 3) := by decide +kernel
theorem dX11_reads_151 : decode cX11_reads 151 = .ok (.iload_n 2, 1) := by decide +kernel
theorem dX11_reads_152 : decode cX11_reads 152 = .ok (.iastore, 1) := by decide +kernel
theorem dX11_reads_153 : decode cX11_reads 153 = .ok (.aload_n 0, 1) := by decide +kernel
theorem dX11_reads_154 : decode cX11_reads 154 = .ok (.dup, 1) := by decide +kernel
theorem dX11_reads_155 : decode cX11_reads 155 = .ok (.getfield 217, 3) := by decide +kernel
theorem dX11_reads_158 : decode cX11_reads 158 = .ok (.iconst 1, 1) := by decide +kernel
theorem dX11_reads_159 : decode cX11_reads 159 = .ok (.iadd, 1) := by decide +kernel
theorem dX11_reads_160 : decode cX11_reads 160 = .ok (.putfield 217, 3) := by decide +kernel
theorem dX11_reads_163 : decode cX11_reads 163 = .ok (.goto 14, 3) := by decide +kernel
theorem dX11_reads_166 : decode cX11_reads 166 = .ok (.aload_n 0, 1) := by decide +kernel
theorem dX11_reads_167 : decode cX11_reads 167 = .ok (.bipush 59, 2) := by decide +kernel
theorem dX11_reads_169 : decode cX11_reads 169 = .ok (.invokevirtual 226, 3) := by decide +kernel
theorem dX11_reads_172 : decode cX11_reads 172 = .ok (.ifCond .ne 5, 3) := by decide +kernel
theorem dX11_reads_175 : decode cX11_reads 175 = .ok (.iconst 0, 1) := by decide +kernel
theorem dX11_reads_176 : decode cX11_reads 176 = .ok (.ireturn, 1) := by decide +kernel
theorem dX11_reads_177 : decode cX11_reads 177 = .ok (.goto (-162), 3) := by decide +kernel
theorem dX11_does_0 : decode cX11_does 0 = .ok (.aload_n 0, 1) := by decide +kernel
theorem dX11_does_1 : decode cX11_does 1 = .ok (.getfield 46, 3) := by decide +kernel
theorem dX11_does_4 : decode cX11_does 4 = .ok (.iload_n 1, 1) := by decide +kernel
theorem dX11_does_5 : decode cX11_does 5 = .ok (.iconst 1, 1) := by decide +kernel
theorem dX11_does_6 : decode cX11_does 6 = .ok (.iadd, 1) := by decide +kernel
theorem dX11_does_7 : decode cX11_does 7 = .ok (.iaload, 1) := by decide +kernel
theorem dX11_does_8 : decode cX11_does 8 = .ok (.istore_n 2, 1) := by decide +kernel
theorem dX11_does_9 : decode cX11_does 9 = .ok (.aload_n 0, 1) := by decide +kernel
theorem dX11_does_10 : decode cX11_does 10 = .ok (.getfield 46, 3) := by decide +kernel
theorem dX11_does_13 : decode cX11_does 13 = .ok (.iload_n 1, 1) := by decide +kernel
theorem dX11_does_14 : decode cX11_does 14 = .ok (.iconst 2, 1) := by decide +kernel
theorem dX11_does_15 : decode cX11_does 15 = .ok (.iadd, 1) := by decide +kernel
theorem dX11_does_16 : decode cX11_does 16 = .ok (.iaload, 1) := by decide +kernel
theorem dX11_does_17 : decode cX11_does 17 = .ok (.istore_n 3, 1) := by decide +kernel
theorem dX11_does_18 : decode cX11_does 18 = .ok (.aload_n 0, 1) := by decide +kernel
theorem dX11_does_19 : decode cX11_does 19 = .ok (.invokevirtual 140, 3) := by decide +kernel
theorem dX11_does_22 : decode cX11_does 22 = .ok (.iload_n 2, 1) := by decide +kernel
theorem dX11_does_23 : decode cX11_does 23 = .ok (.imul, 1) := by decide +kernel
theorem dX11_does_24 : decode cX11_does 24 = .ok (.iload_n 3, 1) := by decide +kernel
theorem dX11_does_25 : decode cX11_does 25 = .ok (.iadd, 1) := by decide +kernel
theorem dX11_does_26 : decode cX11_does 26 = .ok (.istore 4, 2) := by decide +kernel
theorem dX11_does_28 : decode cX11_does 28 = .ok (.aload_n 0, 1) := by decide +kernel
theorem dX11_does_29 : decode cX11_does 29 = .ok (.getfield 46, 3) := by decide +kernel
theorem dX11_does_32 : decode cX11_does 32 = .ok (.iload_n 1, 1) := by decide +kernel
theorem dX11_does_33 : decode cX11_does 33 = .ok (.iaload, 1) := by decide +kernel
theorem dX11_does_34 : decode cX11_does 34 = .ok (.tableswitch 109 3 6 #[30, 46, 65, 85], 30) := by decide +kernel
theorem dX11_does_64 : decode cX11_does 64 = .ok (.aload_n 0, 1) := by decide +kernel
theorem dX11_does_65 : decode cX11_does 65 = .ok (.getfield 13, 3) := by decide +kernel
theorem dX11_does_68 : decode cX11_does 68 = .ok (.iconst 4, 1) := by decide +kernel
theorem dX11_does_69 : decode cX11_does 69 = .ok (.iload_n 2, 1) := by decide +kernel
theorem dX11_does_70 : decode cX11_does 70 = .ok (.iadd, 1) := by decide +kernel
theorem dX11_does_71 : decode cX11_does 71 = .ok (.dup2, 1) := by decide +kernel
theorem dX11_does_72 : decode cX11_does 72 = .ok (.iaload, 1) := by decide +kernel
theorem dX11_does_73 : decode cX11_does 73 = .ok (.iconst 1, 1) := by decide +kernel
theorem dX11_does_74 : decode cX11_does 74 = .ok (.iload_n 3, 1) := by decide +kernel
theorem dX11_does_75 : decode cX11_does 75 = .ok (.ishl, 1) := by decide +kernel
theorem dX11_does_76 : decode cX11_does 76 = .ok (.ixor, 1) := by decide +kernel
theorem dX11_does_77 : decode cX11_does 77 = .ok (.iastore, 1) := by decide +kernel
theorem dX11_does_78 : decode cX11_does 78 = .ok (.iconst 1, 1) := by decide +kernel
theorem dX11_does_79 : decode cX11_does 79 = .ok (.ireturn, 1) := by decide +kernel
theorem dX11_does_80 : decode cX11_does 80 = .ok (.aload_n 0, 1) := by decide +kernel
theorem dX11_does_81 : decode cX11_does 81 = .ok (.getfield 13, 3) := by decide +kernel
theorem dX11_does_84 : decode cX11_does 84 = .ok (.iconst 1, 1) := by decide +kernel
theorem dX11_does_85 : decode cX11_does 85 = .ok (.iaload, 1) := by decide +kernel
theorem dX11_does_86 : decode cX11_does 86 = .ok (.bipush 8, 2) := by decide +kernel
theorem dX11_does_88 : decode cX11_does 88 = .ok (.if_icmp .ne 5, 3) := by decide +kernel
theorem dX11_does_91 : decode cX11_does 91 = .ok (.iconst 0, 1) := by decide +kernel
theorem dX11_does_92 : decode cX11_does 92 = .ok (.ireturn, 1) := by decide +kernel
theorem dX11_does_93 : decode cX11_does 93 = .ok (.aload_n 0, 1) := by decide +kernel
theorem dX11_does_94 : decode cX11_does 94 = .ok (.invokevirtual 233, 3) := by decide +kernel
theorem dX11_does_97 : decode cX11_does 97 = .ok (.iconst 1, 1) := by decide +kernel
theorem dX11_does_98 : decode cX11_does 98 = .ok (.ireturn, 1) := by decide +kernel
theorem dX11_does_99 : decode cX11_does 99 = .ok (.aload_n 0, 1) := by decide +kernel
theorem dX11_does_100 : decode cX11_does 100 = .ok (.getfield 13, 3) := by decide +kernel
theorem dX11_does_103 : decode cX11_does 103 = .ok (.bipush 22, 2) := by decide +kernel
theorem dX11_does_105 : decode cX11_does 105 = .ok (.iload 4, 2) := by decide +kernel
theorem dX11_does_107 : decode cX11_does 107 = .ok (.iadd, 1) := by decide +kernel
theorem dX11_does_108 : decode cX11_does 108 = .ok (.aload_n 0, 1) := by decide +kernel
theorem dX11_does_109 : decode cX11_does 109 = .ok (.getfield 46, 3) := by decide +kernel
theorem dX11_does_112 : decode cX11_does 112 = .ok (.iload_n 1, 1) := by decide +kernel
theorem dX11_does_113 : decode cX11_does 113 = .ok (.iconst 3, 1) := by decide +kernel
theorem dX11_does_114 : decode cX11_does 114 = .ok (.iadd, 1) := by decide +kernel
theorem dX11_does_115 : decode cX11_does 115 = .ok (.iaload, 1) := by decide +kernel
theorem dX11_does_116 : decode cX11_does 116 = .ok (.iastore, 1) := by decide +kernel
theorem dX11_does_117 : decode cX11_does 117 = .ok (.iconst 1, 1) := by decide +kernel
theorem dX11_does_118 : decode cX11_does 118 = .ok (.ireturn, 1) := by decide +kernel
theorem dX11_does_119 : decode cX11_does 119 = .ok (.aload_n 0, 1) := by decide +kernel
theorem dX11_does_120 : decode cX11_does 120 = .ok (.getfield 13, 3) := by decide +kernel
theorem dX11_does_123 : decode cX11_does 123 = .ok (.bipush 47, 2) := by decide +kernel
theorem dX11_does_125 : decode cX11_does 125 = .ok (.bipush 12, 2) := by decide +kernel
theorem dX11_does_127 : decode cX11_does 127 = .ok (.iload_n 2, 1) := by decide +kernel
theorem dX11_does_128 : decode cX11_does 128 = .ok (.imul, 1) := by decide +kernel
theorem dX11_does_129 : decode cX11_does 129 = .ok (.iadd, 1) := by decide +kernel
theorem dX11_does_130 : decode cX11_does 130 = .ok (.iload_n 3, 1) := by decide +kernel
theorem dX11_does_131 : decode cX11_does 131 = .ok (.iadd, 1) := by decide +kernel
theorem dX11_does_132 : decode cX11_does 132 = .ok (.aload_n 0, 1) := by decide +kernel
theorem dX11_does_133 : decode cX11_does 133 = .ok (.getfield 46, 3) := by decide +kernel
theorem dX11_does_136 : decode cX11_does 136 = .ok (.iload_n 1, 1) := by decide +kernel
theorem dX11_does_137 : decode cX11_does 137 = .ok (.iconst 3, 1) := by decide +kernel
theorem dX11_does_138 : decode cX11_does 138 = .ok (.iadd, 1) := by decide +kernel
theorem dX11_does_139 : decode cX11_does 139 = .ok (.iaload, 1) := by decide +kernel
theorem dX11_does_140 : decode cX11_does 140 = .ok (.iastore, 1) := by decide +kernel
theorem dX11_does_141 : decode cX11_does 141 = .ok (.iconst 1, 1) := by decide +kernel
theorem dX11_does_142 : decode cX11_does 142 = .ok (.ireturn, 1) := by decide +kernel
theorem dX11_does_143 : decode cX11_does 143 = .ok (.aload_n 0, 1) := by decide +kernel
theorem dX11_does_144 : decode cX11_does 144 = .ok (.getfield 46, 3) := by decide +kernel
theorem dX11_does_147 : decode cX11_does 147 = .ok (.iload_n 1, 1) := by decide +kernel
theorem dX11_does_148 : decode cX11_does 148 = .ok (.iaload, 1) := by decide +kernel
theorem dX11_does_149 : decode cX11_does 149 = .ok (.iconst 1, 1) := by decide +kernel
theorem dX11_does_150 : decode cX11_does 150 = .ok (.if_icmp .eq 16, 3) := by decide +kernel
theorem dX11_does_153 : decode cX11_does 153 = .ok (.aload_n 0, 1) := by decide +kernel
theorem dX11_does_154 : decode cX11_does 154 = .ok (.getfield 13, 3) := by decide +kernel
theorem dX11_does_157 : decode cX11_does 157 = .ok (.iconst 2, 1) := by decide +kernel
theorem dX11_does_158 : decode cX11_does 158 = .ok (.dup2, 1) := by decide +kernel
theorem dX11_does_159 : decode cX11_does 159 = .ok (.iaload, 1) := by decide +kernel
theorem dX11_does_160 : decode cX11_does 160 = .ok (.iconst 1, 1) := by decide +kernel
theorem dX11_does_161 : decode cX11_does 161 = .ok (.iload 4, 2) := by decide +kernel
theorem dX11_does_163 : decode cX11_does 163 = .ok (.ishl, 1) := by decide +kernel
theorem dX11_does_164 : decode cX11_does 164 = .ok (.ixor, 1) := by decide +kernel
theorem dX11_does_165 : decode cX11_does 165 = .ok (.iastore, 1) := by decide +kernel
theorem dX11_does_166 : decode cX11_does 166 = .ok (.aload_n 0, 1) := by decide +kernel
theorem dX11_does_167 : decode cX11_does 167 = .ok (.getfield 46, 3) := by decide +kernel
theorem dX11_does_170 : decode cX11_does 170 = .ok (.iload_n 1, 1) := by decide +kernel
theorem dX11_does_171 : decode cX11_does 171 = .ok (.iaload, 1) := by decide +kernel
theorem dX11_does_172 : decode cX11_does 172 = .ok (.ifCond .eq 16, 3) := by decide +kernel
theorem dX11_does_175 : decode cX11_does 175 = .ok (.aload_n 0, 1) := by decide +kernel
theorem dX11_does_176 : decode cX11_does 176 = .ok (.getfield 13, 3) := by decide +kernel
theorem dX11_does_179 : decode cX11_does 179 = .ok (.iconst 3, 1) := by decide +kernel
theorem dX11_does_180 : decode cX11_does 180 = .ok (.dup2, 1) := by decide +kernel
theorem dX11_does_181 : decode cX11_does 181 = .ok (.iaload, 1) := by decide +kernel
theorem dX11_does_182 : decode cX11_does 182 = .ok (.iconst 1, 1) := by decide +kernel
theorem dX11_does_183 : decode cX11_does 183 = .ok (.iload 4, 2) := by decide +kernel
theorem dX11_does_185 : decode cX11_does 185 = .ok (.ishl, 1) := by decide +kernel
theorem dX11_does_186 : decode cX11_does 186 = .ok (.ixor, 1) := by decide +kernel
theorem dX11_does_187 : decode cX11_does 187 = .ok (.iastore, 1) := by decide +kernel
theorem dX11_does_188 : decode cX11_does 188 = .ok (.iconst 1, 1) := by decide +kernel
theorem dX11_does_189 : decode cX11_does 189 = .ok (.ireturn, 1) := by decide +kernel
theorem dX11_doesAll_0 : decode cX11_doesAll 0 = .ok (.iconst 0, 1) := by decide +kernel
theorem dX11_doesAll_1 : decode cX11_doesAll 1 = .ok (.istore_n 1, 1) := by decide +kernel
theorem dX11_doesAll_2 : decode cX11_doesAll 2 = .ok (.iconst 0, 1) := by decide +kernel
theorem dX11_doesAll_3 : decode cX11_doesAll 3 = .ok (.istore_n 2, 1) := by decide +kernel
theorem dX11_doesAll_4 : decode cX11_doesAll 4 = .ok (.iconst 0, 1) := by decide +kernel
theorem dX11_doesAll_5 : decode cX11_doesAll 5 = .ok (.istore_n 3, 1) := by decide +kernel
theorem dX11_doesAll_6 : decode cX11_doesAll 6 = .ok (.iconst 0, 1) := by decide +kernel
theorem dX11_doesAll_7 : decode cX11_doesAll 7 = .ok (.istore 4, 2) := by decide +kernel
theorem dX11_doesAll_9 : decode cX11_doesAll 9 = .ok (.iload_n 2, 1) := by decide +kernel
theorem dX11_doesAll_10 : decode cX11_doesAll 10 = .ok (.bipush 100, 2) := by decide +kernel
theorem dX11_doesAll_12 : decode cX11_doesAll 12 = .ok (.if_icmp .ge 159, 3) := by decide +kernel
theorem dX11_doesAll_15 : decode cX11_doesAll 15 = .ok (.iload 4, 2) := by decide +kernel
theorem dX11_doesAll_17 : decode cX11_doesAll 17 = .ok (.aload_n 0, 1) := by decide +kernel
theorem dX11_doesAll_18 : decode cX11_doesAll 18 = .ok (.getfield 214, 3) := by decide +kernel
theorem dX11_doesAll_21 : decode cX11_doesAll 21 = .ok (.if_icmp .lt 7, 3) := by decide +kernel
theorem dX11_doesAll_24 : decode cX11_doesAll 24 = .ok (.iload_n 1, 1) := by decide +kernel
theorem dX11_doesAll_25 : decode cX11_doesAll 25 = .ok (.ifCond .le 146, 3) := by decide +kernel
theorem dX11_doesAll_28 : decode cX11_doesAll 28 = .ok (.iload_n 1, 1) := by decide +kernel
theorem dX11_doesAll_29 : decode cX11_doesAll 29 = .ok (.ifCond .le 69, 3) := by decide +kernel
theorem dX11_doesAll_32 : decode cX11_doesAll 32 = .ok (.iload 4, 2) := by decide +kernel
theorem dX11_doesAll_34 : decode cX11_doesAll 34 = .ok (.aload_n 0, 1) := by decide +kernel
theorem dX11_doesAll_35 : decode cX11_doesAll 35 = .ok (.getfield 46, 3) := by decide +kernel
theorem dX11_doesAll_38 : decode cX11_doesAll 38 = .ok (.iconst 4, 1) := by decide +kernel
theorem dX11_doesAll_39 : decode cX11_doesAll 39 = .ok (.aload_n 0, 1) := by decide +kernel
theorem dX11_doesAll_40 : decode cX11_doesAll 40 = .ok (.getfield 52, 3) := by decide +kernel
theorem dX11_doesAll_43 : decode cX11_doesAll 43 = .ok (.iload_n 1, 1) := by decide +kernel
theorem dX11_doesAll_44 : decode cX11_doesAll 44 = .ok (.iconst 1, 1) := by decide +kernel
theorem dX11_doesAll_45 : decode cX11_doesAll 45 = .ok (.isub, 1) := by decide +kernel
theorem dX11_doesAll_46 : decode cX11_doesAll 46 = .ok (.iaload, 1) := by decide +kernel
theorem dX11_doesAll_47 : decode cX11_doesAll 47 = .ok (.imul, 1) := by decide +kernel
theorem dX11_doesAll_48 : decode cX11_doesAll 48 = .ok (.iconst 2, 1) := by decide +kernel
theorem dX11_doesAll_49 : decode cX11_doesAll 49 = .ok (.iadd, 1) := by decide +kernel
theorem dX11_doesAll_50 : decode cX11_doesAll 50 = .ok (.iaload, 1) := by decide +kernel
theorem dX11_doesAll_51 : decode cX11_doesAll 51 = .ok (.if_icmp .ne 47, 3) := by decide +kernel
theorem dX11_doesAll_54 : decode cX11_doesAll 54 = .ok (.aload_n 0, 1) := by decide +kernel
theorem dX11_doesAll_55 : decode cX11_doesAll 55 = .ok (.getfield 55, 3) := by decide +kernel
theorem dX11_doesAll_58 : decode cX11_doesAll 58 = .ok (.iload_n 1, 1) := by decide +kernel
theorem dX11_doesAll_59 : decode cX11_doesAll 59 = .ok (.iconst 1, 1) := by decide +kernel
theorem dX11_doesAll_60 : decode cX11_doesAll 60 = .ok (.isub, 1) := by decide +kernel
theorem dX11_doesAll_61 : decode cX11_doesAll 61 = .ok (.dup2, 1) := by decide +kernel
theorem dX11_doesAll_62 : decode cX11_doesAll 62 = .ok (.iaload, 1) := by decide +kernel
theorem dX11_doesAll_63 : decode cX11_doesAll 63 = .ok (.iconst 1, 1) := by decide +kernel
theorem dX11_doesAll_64 : decode cX11_doesAll 64 = .ok (.isub, 1) := by decide +kernel
theorem dX11_doesAll_65 : decode cX11_doesAll 65 = .ok (.iastore, 1) := by decide +kernel
theorem dX11_doesAll_66 : decode cX11_doesAll 66 = .ok (.aload_n 0, 1) := by decide +kernel
theorem dX11_doesAll_67 : decode cX11_doesAll 67 = .ok (.getfield 55, 3) := by decide +kernel
theorem dX11_doesAll_70 : decode cX11_doesAll 70 = .ok (.iload_n 1, 1) := by decide +kernel
theorem dX11_doesAll_71 : decode cX11_doesAll 71 = .ok (.iconst 1, 1) := by decide +kernel
theorem dX11_doesAll_72 : decode cX11_doesAll 72 = .ok (.isub, 1) := by decide +kernel
theorem dX11_doesAll_73 : decode cX11_doesAll 73 = .ok (.iaload, 1) := by decide +kernel
theorem dX11_doesAll_74 : decode cX11_doesAll 74 = .ok (.ifCond .le 18, 3) := by decide +kernel
theorem dX11_doesAll_77 : decode cX11_doesAll 77 = .ok (.aload_n 0, 1) := by decide +kernel
theorem dX11_doesAll_78 : decode cX11_doesAll 78 = .ok (.getfield 52, 3) := by decide +kernel
theorem dX11_doesAll_81 : decode cX11_doesAll 81 = .ok (.iload_n 1, 1) := by decide +kernel
theorem dX11_doesAll_82 : decode cX11_doesAll 82 = .ok (.iconst 1, 1) := by decide +kernel
theorem dX11_doesAll_83 : decode cX11_doesAll 83 = .ok (.isub, 1) := by decide +kernel
theorem dX11_doesAll_84 : decode cX11_doesAll 84 = .ok (.iaload, 1) := by decide +kernel
theorem dX11_doesAll_85 : decode cX11_doesAll 85 = .ok (.iconst 1, 1) := by decide +kernel
theorem dX11_doesAll_86 : decode cX11_doesAll 86 = .ok (.iadd, 1) := by decide +kernel
theorem dX11_doesAll_87 : decode cX11_doesAll 87 = .ok (.istore 4, 2) := by decide +kernel
theorem dX11_doesAll_89 : decode cX11_doesAll 89 = .ok (.goto (-80), 3) := by decide +kernel
theorem dX11_doesAll_92 : decode cX11_doesAll 92 = .ok (.iinc 1 (-1), 3) := by decide +kernel
theorem dX11_doesAll_95 : decode cX11_doesAll 95 = .ok (.goto (-86), 3) := by decide +kernel
theorem dX11_doesAll_98 : decode cX11_doesAll 98 = .ok (.aload_n 0, 1) := by decide +kernel
theorem dX11_doesAll_99 : decode cX11_doesAll 99 = .ok (.getfield 46, 3) := by decide +kernel
theorem dX11_doesAll_102 : decode cX11_doesAll 102 = .ok (.iconst 4, 1) := by decide +kernel
theorem dX11_doesAll_103 : decode cX11_doesAll 103 = .ok (.iload 4, 2) := by decide +kernel
theorem dX11_doesAll_105 : decode cX11_doesAll 105 = .ok (.imul, 1) := by decide +kernel
theorem dX11_doesAll_106 : decode cX11_doesAll 106 = .ok (.iaload, 1) := by decide +kernel
theorem dX11_doesAll_107 : decode cX11_doesAll 107 = .ok (.bipush 7, 2) := by decide +kernel
theorem dX11_doesAll_109 : decode cX11_doesAll 109 = .ok (.if_icmp .ne 34, 3) := by decide +kernel
theorem dX11_doesAll_112 : decode cX11_doesAll 112 = .ok (.aload_n 0, 1) := by decide +kernel
theorem dX11_doesAll_113 : decode cX11_doesAll 113 = .ok (.getfield 52, 3) := by decide +kernel
theorem dX11_doesAll_116 : decode cX11_doesAll 116 = .ok (.iload_n 1, 1) := by decide +kernel
theorem dX11_doesAll_117 : decode cX11_doesAll 117 = .ok (.iload 4, 2) := by decide +kernel
theorem dX11_doesAll_119 : decode cX11_doesAll 119 = .ok (.iastore, 1) := by decide +kernel
theorem dX11_doesAll_120 : decode cX11_doesAll 120 = .ok (.aload_n 0, 1) := by decide +kernel
theorem dX11_doesAll_121 : decode cX11_doesAll 121 = .ok (.getfield 55, 3) := by decide +kernel
theorem dX11_doesAll_124 : decode cX11_doesAll 124 = .ok (.iload_n 1, 1) := by decide +kernel
theorem dX11_doesAll_125 : decode cX11_doesAll 125 = .ok (.aload_n 0, 1) := by decide +kernel
theorem dX11_doesAll_126 : decode cX11_doesAll 126 = .ok (.getfield 46, 3) := by decide +kernel
theorem dX11_doesAll_129 : decode cX11_doesAll 129 = .ok (.iconst 4, 1) := by decide +kernel
theorem dX11_doesAll_130 : decode cX11_doesAll 130 = .ok (.iload 4, 2) := by decide +kernel
theorem dX11_doesAll_132 : decode cX11_doesAll 132 = .ok (.imul, 1) := by decide +kernel
theorem dX11_doesAll_133 : decode cX11_doesAll 133 = .ok (.iconst 1, 1) := by decide +kernel
theorem dX11_doesAll_134 : decode cX11_doesAll 134 = .ok (.iadd, 1) := by decide +kernel
theorem dX11_doesAll_135 : decode cX11_doesAll 135 = .ok (.iaload, 1) := by decide +kernel
theorem dX11_doesAll_136 : decode cX11_doesAll 136 = .ok (.iastore, 1) := by decide +kernel
theorem dX11_doesAll_137 : decode cX11_doesAll 137 = .ok (.iinc 1 1, 3) := by decide +kernel
theorem dX11_doesAll_140 : decode cX11_doesAll 140 = .ok (.goto 25, 3) := by decide +kernel
theorem dX11_doesAll_143 : decode cX11_doesAll 143 = .ok (.iinc 2 1, 3) := by decide +kernel
theorem dX11_doesAll_146 : decode cX11_doesAll 146 = .ok (.iload_n 3, 1) := by decide +kernel
theorem dX11_doesAll_147 : decode cX11_doesAll 147 = .ok (.aload_n 0, 1) := by decide +kernel
theorem dX11_doesAll_148 : decode cX11_doesAll 148 = .ok (.iconst 4, 1) := by decide +kernel
theorem dX11_doesAll_149 : decode cX11_doesAll 149 = .ok (.iload 4, 2) := by decide +kernel
theorem dX11_doesAll_151 : decode cX11_doesAll 151 = .ok (.imul, 1) := by decide +kernel
theorem dX11_doesAll_152 : decode cX11_doesAll 152 = .ok (.invokevirtual 236, 3) := by decide +kernel
theorem dX11_doesAll_155 : decode cX11_doesAll 155 = .ok (.ifCond .eq 7, 3) := by decide +kernel
theorem dX11_doesAll_158 : decode cX11_doesAll 158 = .ok (.iconst 1, 1) := by decide +kernel
theorem dX11_doesAll_159 : decode cX11_doesAll 159 = .ok (.goto 4, 3) := by decide +kernel
theorem dX11_doesAll_162 : decode cX11_doesAll 162 = .ok (.iconst 0, 1) := by decide +kernel
theorem dX11_doesAll_163 : decode cX11_doesAll 163 = .ok (.iadd, 1) := by decide +kernel
theorem dX11_doesAll_164 : decode cX11_doesAll 164 = .ok (.istore_n 3, 1) := by decide +kernel
theorem dX11_doesAll_165 : decode cX11_doesAll 165 = .ok (.iinc 4 1, 3) := by decide +kernel
theorem dX11_doesAll_168 : decode cX11_doesAll 168 = .ok (.goto (-159), 3) := by decide +kernel
theorem dX11_doesAll_171 : decode cX11_doesAll 171 = .ok (.iload_n 3, 1) := by decide +kernel
theorem dX11_doesAll_172 : decode cX11_doesAll 172 = .ok (.ireturn, 1) := by decide +kernel
theorem dX11_work_0 : decode cX11_work 0 = .ok (.aload_n 0, 1) := by decide +kernel
theorem dX11_work_1 : decode cX11_work 1 = .ok (.iconst 0, 1) := by decide +kernel
theorem dX11_work_2 : decode cX11_work 2 = .ok (.putfield 1, 3) := by decide +kernel
theorem dX11_work_5 : decode cX11_work 5 = .ok (.aload_n 0, 1) := by decide +kernel
theorem dX11_work_6 : decode cX11_work 6 = .ok (.aload_n 0, 1) := by decide +kernel
theorem dX11_work_7 : decode cX11_work 7 = .ok (.getfield 134, 3) := by decide +kernel
theorem dX11_work_10 : decode cX11_work 10 = .ok (.putfield 190, 3) := by decide +kernel
theorem dX11_work_13 : decode cX11_work 13 = .ok (.aload_n 0, 1) := by decide +kernel
theorem dX11_work_14 : decode cX11_work 14 = .ok (.iconst 0, 1) := by decide +kernel
theorem dX11_work_15 : decode cX11_work 15 = .ok (.putfield 134, 3) := by decide +kernel
theorem dX11_work_18 : decode cX11_work 18 = .ok (.aload_n 0, 1) := by decide +kernel
theorem dX11_work_19 : decode cX11_work 19 = .ok (.iconst 0, 1) := by decide +kernel
theorem dX11_work_20 : decode cX11_work 20 = .ok (.putfield 193, 3) := by decide +kernel
theorem dX11_work_23 : decode cX11_work 23 = .ok (.aload_n 0, 1) := by decide +kernel
theorem dX11_work_24 : decode cX11_work 24 = .ok (.getfield 190, 3) := by decide +kernel
theorem dX11_work_27 : decode cX11_work 27 = .ok (.sipush 200, 3) := by decide +kernel
theorem dX11_work_30 : decode cX11_work 30 = .ok (.if_icmp .le 16, 3) := by decide +kernel
theorem dX11_work_33 : decode cX11_work 33 = .ok (.aload_n 0, 1) := by decide +kernel
theorem dX11_work_34 : decode cX11_work 34 = .ok (.iconst 1, 1) := by decide +kernel
theorem dX11_work_35 : decode cX11_work 35 = .ok (.sipush 200, 3) := by decide +kernel
theorem dX11_work_38 : decode cX11_work 38 = .ok (.invokevirtual 208, 3) := by decide +kernel
theorem dX11_work_41 : decode cX11_work 41 = .ok (.pop, 1) := by decide +kernel
theorem dX11_work_42 : decode cX11_work 42 = .ok (.sipush (-1200), 3) := by decide +kernel
theorem dX11_work_45 : decode cX11_work 45 = .ok (.ireturn, 1) := by decide +kernel
theorem dX11_work_46 : decode cX11_work 46 = .ok (.aload_n 0, 1) := by decide +kernel
theorem dX11_work_47 : decode cX11_work 47 = .ok (.invokevirtual 239, 3) := by decide +kernel
theorem dX11_work_50 : decode cX11_work 50 = .ok (.ifCond .ne 12, 3) := by decide +kernel
theorem dX11_work_53 : decode cX11_work 53 = .ok (.sipush (-1000), 3) := by decide +kernel
theorem dX11_work_56 : decode cX11_work 56 = .ok (.aload_n 0, 1) := by decide +kernel
theorem dX11_work_57 : decode cX11_work 57 = .ok (.getfield 196, 3) := by decide +kernel
theorem dX11_work_60 : decode cX11_work 60 = .ok (.isub, 1) := by decide +kernel
theorem dX11_work_61 : decode cX11_work 61 = .ok (.ireturn, 1) := by decide +kernel
theorem dX11_work_62 : decode cX11_work 62 = .ok (.aload_n 0, 1) := by decide +kernel
theorem dX11_work_63 : decode cX11_work 63 = .ok (.invokevirtual 242, 3) := by decide +kernel
theorem dX11_work_66 : decode cX11_work 66 = .ok (.aload_n 0, 1) := by decide +kernel
theorem dX11_work_67 : decode cX11_work 67 = .ok (.invokevirtual 245, 3) := by decide +kernel
theorem dX11_work_70 : decode cX11_work 70 = .ok (.ireturn, 1) := by decide +kernel
theorem dX11_fault_0 : decode cX11_fault 0 = .ok (.aload_n 0, 1) := by decide +kernel
theorem dX11_fault_1 : decode cX11_fault 1 = .ok (.iconst 0, 1) := by decide +kernel
theorem dX11_fault_2 : decode cX11_fault 2 = .ok (.putfield 1, 3) := by decide +kernel
theorem dX11_fault_5 : decode cX11_fault 5 = .ok (.aload_n 0, 1) := by decide +kernel
theorem dX11_fault_6 : decode cX11_fault 6 = .ok (.getfield 193, 3) := by decide +kernel
theorem dX11_fault_9 : decode cX11_fault 9 = .ok (.ireturn, 1) := by decide +kernel
theorem dX11_laysNet_0 : decode cX11_laysNet 0 = .ok (.aload_n 0, 1) := by decide +kernel
theorem dX11_laysNet_1 : decode cX11_laysNet 1 = .ok (.iload_n 1, 1) := by decide +kernel
theorem dX11_laysNet_2 : decode cX11_laysNet 2 = .ok (.putfield 248, 3) := by decide +kernel
theorem dX11_laysNet_5 : decode cX11_laysNet 5 = .ok (.aload_n 0, 1) := by decide +kernel
theorem dX11_laysNet_6 : decode cX11_laysNet 6 = .ok (.invokevirtual 148, 3) := by decide +kernel
theorem dX11_laysNet_9 : decode cX11_laysNet 9 = .ok (.aload_n 0, 1) := by decide +kernel
theorem dX11_laysNet_10 : decode cX11_laysNet 10 = .ok (.getfield 151, 3) := by decide +kernel
theorem dX11_laysNet_13 : decode cX11_laysNet 13 = .ok (.iadd, 1) := by decide +kernel
theorem dX11_laysNet_14 : decode cX11_laysNet 14 = .ok (.istore_n 2, 1) := by decide +kernel
theorem dX11_laysNet_15 : decode cX11_laysNet 15 = .ok (.aload_n 0, 1) := by decide +kernel
theorem dX11_laysNet_16 : decode cX11_laysNet 16 = .ok (.aload_n 0, 1) := by decide +kernel
theorem dX11_laysNet_17 : decode cX11_laysNet 17 = .ok (.getfield 13, 3) := by decide +kernel
theorem dX11_laysNet_20 : decode cX11_laysNet 20 = .ok (.iconst 1, 1) := by decide +kernel
theorem dX11_laysNet_21 : decode cX11_laysNet 21 = .ok (.iaload, 1) := by decide +kernel
theorem dX11_laysNet_22 : decode cX11_laysNet 22 = .ok (.iload_n 2, 1) := by decide +kernel
