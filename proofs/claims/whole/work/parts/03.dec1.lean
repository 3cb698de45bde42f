theorem dX8_fitted_138 : decode cX8_fitted 138 = .ok (.lmul, 1) := by decide +kernel
theorem dX8_fitted_139 : decode cX8_fitted 139 = .ok (.lload_n 3, 1) := by decide +kernel
theorem dX8_fitted_140 : decode cX8_fitted 140 = .ok (.lload_n 3, 1) := by decide +kernel
theorem dX8_fitted_141 : decode cX8_fitted 141 = .ok (.lmul, 1) := by decide +kernel
theorem dX8_fitted_142 : decode cX8_fitted 142 = .ok (.lsub, 1) := by decide +kernel
theorem dX8_fitted_143 : decode cX8_fitted 143 = .ok (.invokespecial 27, 3) := by decide +kernel
theorem dX8_fitted_146 : decode cX8_fitted 146 = .ok (.areturn, 1) := by decide +kernel
theorem dX8_tellMeans_0 : decode cX8_tellMeans 0 = .ok (.iconst (-1), 1) := by decide +kernel
theorem dX8_tellMeans_1 : decode cX8_tellMeans 1 = .ok (.istore_n 2, 1) := by decide +kernel
theorem dX8_tellMeans_2 : decode cX8_tellMeans 2 = .ok (.iconst 0, 1) := by decide +kernel
theorem dX8_tellMeans_3 : decode cX8_tellMeans 3 = .ok (.istore_n 3, 1) := by decide +kernel
theorem dX8_tellMeans_4 : decode cX8_tellMeans 4 = .ok (.iload_n 3, 1) := by decide +kernel
theorem dX8_tellMeans_5 : decode cX8_tellMeans 5 = .ok (.aload_n 0, 1) := by decide +kernel
theorem dX8_tellMeans_6 : decode cX8_tellMeans 6 = .ok (.getfield 21, 3) := by decide +kernel
theorem dX8_tellMeans_9 : decode cX8_tellMeans 9 = .ok (.if_icmp .ge 40, 3) := by decide +kernel
theorem dX8_tellMeans_12 : decode cX8_tellMeans 12 = .ok (.aload_n 0, 1) := by decide +kernel
theorem dX8_tellMeans_13 : decode cX8_tellMeans 13 = .ok (.iload_n 2, 1) := by decide +kernel
theorem dX8_tellMeans_14 : decode cX8_tellMeans 14 = .ok (.invokevirtual 30, 3) := by decide +kernel
theorem dX8_tellMeans_17 : decode cX8_tellMeans 17 = .ok (.istore 4, 2) := by decide +kernel
theorem dX8_tellMeans_19 : decode cX8_tellMeans 19 = .ok (.iload 4, 2) := by decide +kernel
theorem dX8_tellMeans_21 : decode cX8_tellMeans 21 = .ok (.sipush 4095, 3) := by decide +kernel
theorem dX8_tellMeans_24 : decode cX8_tellMeans 24 = .ok (.if_icmp .le 4, 3) := by decide +kernel
theorem dX8_tellMeans_27 : decode cX8_tellMeans 27 = .ok (.return_, 1) := by decide +kernel
theorem dX8_tellMeans_28 : decode cX8_tellMeans 28 = .ok (.aload_n 1, 1) := by decide +kernel
theorem dX8_tellMeans_29 : decode cX8_tellMeans 29 = .ok (.iload 4, 2) := by decide +kernel
theorem dX8_tellMeans_31 : decode cX8_tellMeans 31 = .ok (.aload_n 0, 1) := by decide +kernel
theorem dX8_tellMeans_32 : decode cX8_tellMeans 32 = .ok (.iload 4, 2) := by decide +kernel
theorem dX8_tellMeans_34 : decode cX8_tellMeans 34 = .ok (.invokevirtual 34, 3) := by decide +kernel
theorem dX8_tellMeans_37 : decode cX8_tellMeans 37 = .ok (.invokevirtual 37, 3) := by decide +kernel
theorem dX8_tellMeans_40 : decode cX8_tellMeans 40 = .ok (.iload 4, 2) := by decide +kernel
theorem dX8_tellMeans_42 : decode cX8_tellMeans 42 = .ok (.istore_n 2, 1) := by decide +kernel
theorem dX8_tellMeans_43 : decode cX8_tellMeans 43 = .ok (.iinc 3 1, 3) := by decide +kernel
theorem dX8_tellMeans_46 : decode cX8_tellMeans 46 = .ok (.goto (-42), 3) := by decide +kernel
theorem dX8_tellMeans_49 : decode cX8_tellMeans 49 = .ok (.return_, 1) := by decide +kernel
theorem dX8_leastCountAbove_0 : decode cX8_leastCountAbove 0 = .ok (.sipush 4096, 3) := by decide +kernel
theorem dX8_leastCountAbove_3 : decode cX8_leastCountAbove 3 = .ok (.istore_n 2, 1) := by decide +kernel
theorem dX8_leastCountAbove_4 : decode cX8_leastCountAbove 4 = .ok (.iconst 0, 1) := by decide +kernel
theorem dX8_leastCountAbove_5 : decode cX8_leastCountAbove 5 = .ok (.istore_n 3, 1) := by decide +kernel
theorem dX8_leastCountAbove_6 : decode cX8_leastCountAbove 6 = .ok (.iload_n 3, 1) := by decide +kernel
theorem dX8_leastCountAbove_7 : decode cX8_leastCountAbove 7 = .ok (.aload_n 0, 1) := by decide +kernel
theorem dX8_leastCountAbove_8 : decode cX8_leastCountAbove 8 = .ok (.getfield 21, 3) := by decide +kernel
theorem dX8_leastCountAbove_11 : decode cX8_leastCountAbove 11 = .ok (.if_icmp .ge 36, 3) := by decide +kernel
theorem dX8_leastCountAbove_14 : decode cX8_leastCountAbove 14 = .ok (.aload_n 0, 1) := by decide +kernel
theorem dX8_leastCountAbove_15 : decode cX8_leastCountAbove 15 = .ok (.getfield 9, 3) := by decide +kernel
theorem dX8_leastCountAbove_18 : decode cX8_leastCountAbove 18 = .ok (.iload_n 3, 1) := by decide +kernel
theorem dX8_leastCountAbove_19 : decode cX8_leastCountAbove 19 = .ok (.iaload, 1) := by decide +kernel
theorem dX8_leastCountAbove_20 : decode cX8_leastCountAbove 20 = .ok (.iload_n 1, 1) := by decide +kernel
theorem dX8_leastCountAbove_21 : decode cX8_leastCountAbove 21 = .ok (.if_icmp .le 20, 3) := by decide +kernel
theorem dX8_leastCountAbove_24 : decode cX8_leastCountAbove 24 = .ok (.aload_n 0, 1) := by decide +kernel
theorem dX8_leastCountAbove_25 : decode cX8_leastCountAbove 25 = .ok (.getfield 9, 3) := by decide +kernel
theorem dX8_leastCountAbove_28 : decode cX8_leastCountAbove 28 = .ok (.iload_n 3, 1) := by decide +kernel
theorem dX8_leastCountAbove_29 : decode cX8_leastCountAbove 29 = .ok (.iaload, 1) := by decide +kernel
theorem dX8_leastCountAbove_30 : decode cX8_leastCountAbove 30 = .ok (.iload_n 2, 1) := by decide +kernel
theorem dX8_leastCountAbove_31 : decode cX8_leastCountAbove 31 = .ok (.if_icmp .ge 10, 3) := by decide +kernel
theorem dX8_leastCountAbove_34 : decode cX8_leastCountAbove 34 = .ok (.aload_n 0, 1) := by decide +kernel
theorem dX8_leastCountAbove_35 : decode cX8_leastCountAbove 35 = .ok (.getfield 9, 3) := by decide +kernel
theorem dX8_leastCountAbove_38 : decode cX8_leastCountAbove 38 = .ok (.iload_n 3, 1) := by decide +kernel
theorem dX8_leastCountAbove_39 : decode cX8_leastCountAbove 39 = .ok (.iaload, 1) := by decide +kernel
theorem dX8_leastCountAbove_40 : decode cX8_leastCountAbove 40 = .ok (.istore_n 2, 1) := by decide +kernel
theorem dX8_leastCountAbove_41 : decode cX8_leastCountAbove 41 = .ok (.iinc 3 1, 3) := by decide +kernel
theorem dX8_leastCountAbove_44 : decode cX8_leastCountAbove 44 = .ok (.goto (-38), 3) := by decide +kernel
theorem dX8_leastCountAbove_47 : decode cX8_leastCountAbove 47 = .ok (.iload_n 2, 1) := by decide +kernel
theorem dX8_leastCountAbove_48 : decode cX8_leastCountAbove 48 = .ok (.ireturn, 1) := by decide +kernel
theorem dX8_meanReference_0 : decode cX8_meanReference 0 = .ok (.lconst 0, 1) := by decide +kernel
theorem dX8_meanReference_1 : decode cX8_meanReference 1 = .ok (.lstore_n 2, 1) := by decide +kernel
theorem dX8_meanReference_2 : decode cX8_meanReference 2 = .ok (.lconst 0, 1) := by decide +kernel
theorem dX8_meanReference_3 : decode cX8_meanReference 3 = .ok (.lstore 4, 2) := by decide +kernel
theorem dX8_meanReference_5 : decode cX8_meanReference 5 = .ok (.iconst 0, 1) := by decide +kernel
theorem dX8_meanReference_6 : decode cX8_meanReference 6 = .ok (.istore 6, 2) := by decide +kernel
theorem dX8_meanReference_8 : decode cX8_meanReference 8 = .ok (.iload 6, 2) := by decide +kernel
theorem dX8_meanReference_10 : decode cX8_meanReference 10 = .ok (.aload_n 0, 1) := by decide +kernel
theorem dX8_meanReference_11 : decode cX8_meanReference 11 = .ok (.getfield 21, 3) := by decide +kernel
theorem dX8_meanReference_14 : decode cX8_meanReference 14 = .ok (.if_icmp .ge 53, 3) := by decide +kernel
theorem dX8_meanReference_17 : decode cX8_meanReference 17 = .ok (.aload_n 0, 1) := by decide +kernel
theorem dX8_meanReference_18 : decode cX8_meanReference 18 = .ok (.getfield 9, 3) := by decide +kernel
theorem dX8_meanReference_21 : decode cX8_meanReference 21 = .ok (.iload 6, 2) := by decide +kernel
theorem dX8_meanReference_23 : decode cX8_meanReference 23 = .ok (.iaload, 1) := by decide +kernel
theorem dX8_meanReference_24 : decode cX8_meanReference 24 = .ok (.iload_n 1, 1) := by decide +kernel
theorem dX8_meanReference_25 : decode cX8_meanReference 25 = .ok (.if_icmp .ne 36, 3) := by decide +kernel
theorem dX8_meanReference_28 : decode cX8_meanReference 28 = .ok (.lload_n 2, 1) := by decide +kernel
theorem dX8_meanReference_29 : decode cX8_meanReference 29 = .ok (.aload_n 0, 1) := by decide +kernel
theorem dX8_meanReference_30 : decode cX8_meanReference 30 = .ok (.getfield 18, 3) := by decide +kernel
theorem dX8_meanReference_33 : decode cX8_meanReference 33 = .ok (.iload 6, 2) := by decide +kernel
theorem dX8_meanReference_35 : decode cX8_meanReference 35 = .ok (.iaload, 1) := by decide +kernel
theorem dX8_meanReference_36 : decode cX8_meanReference 36 = .ok (.i2l, 1) := by decide +kernel
theorem dX8_meanReference_37 : decode cX8_meanReference 37 = .ok (.aload_n 0, 1) := by decide +kernel
theorem dX8_meanReference_38 : decode cX8_meanReference 38 = .ok (.getfield 15, 3) := by decide +kernel
theorem dX8_meanReference_41 : decode cX8_meanReference 41 = .ok (.iload 6, 2) := by decide +kernel
theorem dX8_meanReference_43 : decode cX8_meanReference 43 = .ok (.iaload, 1) := by decide +kernel
theorem dX8_meanReference_44 : decode cX8_meanReference 44 = .ok (.i2l, 1) := by decide +kernel
theorem dX8_meanReference_45 : decode cX8_meanReference 45 = .ok (.lmul, 1) := by decide +kernel
theorem dX8_meanReference_46 : decode cX8_meanReference 46 = .ok (.ladd, 1) := by decide +kernel
theorem dX8_meanReference_47 : decode cX8_meanReference 47 = .ok (.lstore_n 2, 1) := by decide +kernel
theorem dX8_meanReference_48 : decode cX8_meanReference 48 = .ok (.lload 4, 2) := by decide +kernel
theorem dX8_meanReference_50 : decode cX8_meanReference 50 = .ok (.aload_n 0, 1) := by decide +kernel
theorem dX8_meanReference_51 : decode cX8_meanReference 51 = .ok (.getfield 18, 3) := by decide +kernel
theorem dX8_meanReference_54 : decode cX8_meanReference 54 = .ok (.iload 6, 2) := by decide +kernel
theorem dX8_meanReference_56 : decode cX8_meanReference 56 = .ok (.iaload, 1) := by decide +kernel
theorem dX8_meanReference_57 : decode cX8_meanReference 57 = .ok (.i2l, 1) := by decide +kernel
theorem dX8_meanReference_58 : decode cX8_meanReference 58 = .ok (.ladd, 1) := by decide +kernel
theorem dX8_meanReference_59 : decode cX8_meanReference 59 = .ok (.lstore 4, 2) := by decide +kernel
theorem dX8_meanReference_61 : decode cX8_meanReference 61 = .ok (.iinc 6 1, 3) := by decide +kernel
theorem dX8_meanReference_64 : decode cX8_meanReference 64 = .ok (.goto (-56), 3) := by decide +kernel
theorem dX8_meanReference_67 : decode cX8_meanReference 67 = .ok (.lload_n 2, 1) := by decide +kernel
theorem dX8_meanReference_68 : decode cX8_meanReference 68 = .ok (.lload 4, 2) := by decide +kernel
theorem dX8_meanReference_70 : decode cX8_meanReference 70 = .ok (.invokestatic 43, 3) := by decide +kernel
theorem dX8_meanReference_73 : decode cX8_meanReference 73 = .ok (.l2i, 1) := by decide +kernel
theorem dX8_meanReference_74 : decode cX8_meanReference 74 = .ok (.ireturn, 1) := by decide +kernel
theorem dX8_missedBy_0 : decode cX8_missedBy 0 = .ok (.aload_n 0, 1) := by decide +kernel
theorem dX8_missedBy_1 : decode cX8_missedBy 1 = .ok (.getfield 15, 3) := by decide +kernel
theorem dX8_missedBy_4 : decode cX8_missedBy 4 = .ok (.iload_n 2, 1) := by decide +kernel
theorem dX8_missedBy_5 : decode cX8_missedBy 5 = .ok (.iaload, 1) := by decide +kernel
theorem dX8_missedBy_6 : decode cX8_missedBy 6 = .ok (.aload_n 1, 1) := by decide +kernel
theorem dX8_missedBy_7 : decode cX8_missedBy 7 = .ok (.aload_n 0, 1) := by decide +kernel
theorem dX8_missedBy_8 : decode cX8_missedBy 8 = .ok (.getfield 9, 3) := by decide +kernel
theorem dX8_missedBy_11 : decode cX8_missedBy 11 = .ok (.iload_n 2, 1) := by decide +kernel
theorem dX8_missedBy_12 : decode cX8_missedBy 12 = .ok (.iaload, 1) := by decide +kernel
theorem dX8_missedBy_13 : decode cX8_missedBy 13 = .ok (.invokevirtual 47, 3) := by decide +kernel
theorem dX8_missedBy_16 : decode cX8_missedBy 16 = .ok (.isub, 1) := by decide +kernel
theorem dX8_missedBy_17 : decode cX8_missedBy 17 = .ok (.ireturn, 1) := by decide +kernel
theorem dX8_farthestFrom_0 : decode cX8_farthestFrom 0 = .ok (.iconst (-1), 1) := by decide +kernel
theorem dX8_farthestFrom_1 : decode cX8_farthestFrom 1 = .ok (.istore_n 2, 1) := by decide +kernel
theorem dX8_farthestFrom_2 : decode cX8_farthestFrom 2 = .ok (.iconst (-1), 1) := by decide +kernel
theorem dX8_farthestFrom_3 : decode cX8_farthestFrom 3 = .ok (.istore_n 3, 1) := by decide +kernel
theorem dX8_farthestFrom_4 : decode cX8_farthestFrom 4 = .ok (.iconst 0, 1) := by decide +kernel
theorem dX8_farthestFrom_5 : decode cX8_farthestFrom 5 = .ok (.istore 4, 2) := by decide +kernel
theorem dX8_farthestFrom_7 : decode cX8_farthestFrom 7 = .ok (.iload 4, 2) := by decide +kernel
theorem dX8_farthestFrom_9 : decode cX8_farthestFrom 9 = .ok (.aload_n 0, 1) := by decide +kernel
theorem dX8_farthestFrom_10 : decode cX8_farthestFrom 10 = .ok (.getfield 21, 3) := by decide +kernel
theorem dX8_farthestFrom_13 : decode cX8_farthestFrom 13 = .ok (.if_icmp .ge 33, 3) := by decide +kernel
theorem dX8_farthestFrom_16 : decode cX8_farthestFrom 16 = .ok (.aload_n 0, 1) := by decide +kernel
theorem dX8_farthestFrom_17 : decode cX8_farthestFrom 17 = .ok (.aload_n 1, 1) := by decide +kernel
theorem dX8_farthestFrom_18 : decode cX8_farthestFrom 18 = .ok (.iload 4, 2) := by decide +kernel
theorem dX8_farthestFrom_20 : decode cX8_farthestFrom 20 = .ok (.invokevirtual 52, 3) := by decide +kernel
theorem dX8_farthestFrom_23 : decode cX8_farthestFrom 23 = .ok (.invokestatic 56, 3) := by decide +kernel
theorem dX8_farthestFrom_26 : decode cX8_farthestFrom 26 = .ok (.istore 5, 2) := by decide +kernel
theorem dX8_farthestFrom_28 : decode cX8_farthestFrom 28 = .ok (.iload 5, 2) := by decide +kernel
theorem dX8_farthestFrom_30 : decode cX8_farthestFrom 30 = .ok (.iload_n 3, 1) := by decide +kernel
theorem dX8_farthestFrom_31 : decode cX8_farthestFrom 31 = .ok (.if_icmp .le 9, 3) := by decide +kernel
theorem dX8_farthestFrom_34 : decode cX8_farthestFrom 34 = .ok (.iload 5, 2) := by decide +kernel
theorem dX8_farthestFrom_36 : decode cX8_farthestFrom 36 = .ok (.istore_n 3, 1) := by decide +kernel
theorem dX8_farthestFrom_37 : decode cX8_farthestFrom 37 = .ok (.iload 4, 2) := by decide +kernel
theorem dX8_farthestFrom_39 : decode cX8_farthestFrom 39 = .ok (.istore_n 2, 1) := by decide +kernel
theorem dX8_farthestFrom_40 : decode cX8_farthestFrom 40 = .ok (.iinc 4 1, 3) := by decide +kernel
theorem dX8_farthestFrom_43 : decode cX8_farthestFrom 43 = .ok (.goto (-36), 3) := by decide +kernel
theorem dX8_farthestFrom_46 : decode cX8_farthestFrom 46 = .ok (.iload_n 2, 1) := by decide +kernel
theorem dX8_farthestFrom_47 : decode cX8_farthestFrom 47 = .ok (.ireturn, 1) := by decide +kernel
theorem dX8_squaresFrom_0 : decode cX8_squaresFrom 0 = .ok (.lconst 0, 1) := by decide +kernel
theorem dX8_squaresFrom_1 : decode cX8_squaresFrom 1 = .ok (.lstore_n 2, 1) := by decide +kernel
theorem dX8_squaresFrom_2 : decode cX8_squaresFrom 2 = .ok (.iconst 0, 1) := by decide +kernel
theorem dX8_squaresFrom_3 : decode cX8_squaresFrom 3 = .ok (.istore 4, 2) := by decide +kernel
theorem dX8_squaresFrom_5 : decode cX8_squaresFrom 5 = .ok (.iload 4, 2) := by decide +kernel
theorem dX8_squaresFrom_7 : decode cX8_squaresFrom 7 = .ok (.aload_n 0, 1) := by decide +kernel
theorem dX8_squaresFrom_8 : decode cX8_squaresFrom 8 = .ok (.getfield 21, 3) := by decide +kernel
theorem dX8_squaresFrom_11 : decode cX8_squaresFrom 11 = .ok (.if_icmp .ge 36, 3) := by decide +kernel
theorem dX8_squaresFrom_14 : decode cX8_squaresFrom 14 = .ok (.aload_n 0, 1) := by decide +kernel
theorem dX8_squaresFrom_15 : decode cX8_squaresFrom 15 = .ok (.aload_n 1, 1) := by decide +kernel
theorem dX8_squaresFrom_16 : decode cX8_squaresFrom 16 = .ok (.iload 4, 2) := by decide +kernel
theorem dX8_squaresFrom_18 : decode cX8_squaresFrom 18 = .ok (.invokevirtual 52, 3) := by decide +kernel
theorem dX8_squaresFrom_21 : decode cX8_squaresFrom 21 = .ok (.i2l, 1) := by decide +kernel
theorem dX8_squaresFrom_22 : decode cX8_squaresFrom 22 = .ok (.lstore 5, 2) := by decide +kernel
theorem dX8_squaresFrom_24 : decode cX8_squaresFrom 24 = .ok (.lload_n 2, 1) := by decide +kernel
theorem dX8_squaresFrom_25 : decode cX8_squaresFrom 25 = .ok (.aload_n 0, 1) := by decide +kernel
theorem dX8_squaresFrom_26 : decode cX8_squaresFrom 26 = .ok (.getfield 18, 3) := by decide +kernel
theorem dX8_squaresFrom_29 : decode cX8_squaresFrom 29 = .ok (.iload 4, 2) := by decide +kernel
theorem dX8_squaresFrom_31 : decode cX8_squaresFrom 31 = .ok (.iaload, 1) := by decide +kernel
theorem dX8_squaresFrom_32 : decode cX8_squaresFrom 32 = .ok (.i2l, 1) := by decide +kernel
theorem dX8_squaresFrom_33 : decode cX8_squaresFrom 33 = .ok (.lload 5, 2) := by decide +kernel
theorem dX8_squaresFrom_35 : decode cX8_squaresFrom 35 = .ok (.lmul, 1) := by decide +kernel
theorem dX8_squaresFrom_36 : decode cX8_squaresFrom 36 = .ok (.lload 5, 2) := by decide +kernel
theorem dX8_squaresFrom_38 : decode cX8_squaresFrom 38 = .ok (.lmul, 1) := by decide +kernel
theorem dX8_squaresFrom_39 : decode cX8_squaresFrom 39 = .ok (.ladd, 1) := by decide +kernel
theorem dX8_squaresFrom_40 : decode cX8_squaresFrom 40 = .ok (.lstore_n 2, 1) := by decide +kernel
theorem dX8_squaresFrom_41 : decode cX8_squaresFrom 41 = .ok (.iinc 4 1, 3) := by decide +kernel
theorem dX8_squaresFrom_44 : decode cX8_squaresFrom 44 = .ok (.goto (-39), 3) := by decide +kernel
theorem dX8_squaresFrom_47 : decode cX8_squaresFrom 47 = .ok (.lload_n 2, 1) := by decide +kernel
theorem dX8_squaresFrom_48 : decode cX8_squaresFrom 48 = .ok (.lreturn, 1) := by decide +kernel
theorem dX8_meanFrom_0 : decode cX8_meanFrom 0 = .ok (.lconst 0, 1) := by decide +kernel
theorem dX8_meanFrom_1 : decode cX8_meanFrom 1 = .ok (.lstore_n 2, 1) := by decide +kernel
theorem dX8_meanFrom_2 : decode cX8_meanFrom 2 = .ok (.lconst 0, 1) := by decide +kernel
theorem dX8_meanFrom_3 : decode cX8_meanFrom 3 = .ok (.lstore 4, 2) := by decide +kernel
theorem dX8_meanFrom_5 : decode cX8_meanFrom 5 = .ok (.iconst 0, 1) := by decide +kernel
theorem dX8_meanFrom_6 : decode cX8_meanFrom 6 = .ok (.istore 6, 2) := by decide +kernel
theorem dX8_meanFrom_8 : decode cX8_meanFrom 8 = .ok (.iload 6, 2) := by decide +kernel
theorem dX8_meanFrom_10 : decode cX8_meanFrom 10 = .ok (.aload_n 0, 1) := by decide +kernel
theorem dX8_meanFrom_11 : decode cX8_meanFrom 11 = .ok (.getfield 21, 3) := by decide +kernel
theorem dX8_meanFrom_14 : decode cX8_meanFrom 14 = .ok (.if_icmp .ge 42, 3) := by decide +kernel
theorem dX8_meanFrom_17 : decode cX8_meanFrom 17 = .ok (.lload_n 2, 1) := by decide +kernel
theorem dX8_meanFrom_18 : decode cX8_meanFrom 18 = .ok (.aload_n 0, 1) := by decide +kernel
theorem dX8_meanFrom_19 : decode cX8_meanFrom 19 = .ok (.getfield 18, 3) := by decide +kernel
theorem dX8_meanFrom_22 : decode cX8_meanFrom 22 = .ok (.iload 6, 2) := by decide +kernel
theorem dX8_meanFrom_24 : decode cX8_meanFrom 24 = .ok (.iaload, 1) := by decide +kernel
theorem dX8_meanFrom_25 : decode cX8_meanFrom 25 = .ok (.i2l, 1) := by decide +kernel
theorem dX8_meanFrom_26 : decode cX8_meanFrom 26 = .ok (.aload_n 0, 1) := by decide +kernel
theorem dX8_meanFrom_27 : decode cX8_meanFrom 27 = .ok (.aload_n 1, 1) := by decide +kernel
theorem dX8_meanFrom_28 : decode cX8_meanFrom 28 = .ok (.iload 6, 2) := by decide +kernel
theorem dX8_meanFrom_30 : decode cX8_meanFrom 30 = .ok (.invokevirtual 52, 3) := by decide +kernel
theorem dX8_meanFrom_33 : decode cX8_meanFrom 33 = .ok (.i2l, 1) := by decide +kernel
theorem dX8_meanFrom_34 : decode cX8_meanFrom 34 = .ok (.lmul, 1) := by decide +kernel
theorem dX8_meanFrom_35 : decode cX8_meanFrom 35 = .ok (.ladd, 1) := by decide +kernel
theorem dX8_meanFrom_36 : decode cX8_meanFrom 36 = .ok (.lstore_n 2, 1) := by decide +kernel
theorem dX8_meanFrom_37 : decode cX8_meanFrom 37 = .ok (.lload 4, 2) := by decide +kernel
theorem dX8_meanFrom_39 : decode cX8_meanFrom 39 = .ok (.aload_n 0, 1) := by decide +kernel
theorem dX8_meanFrom_40 : decode cX8_meanFrom 40 = .ok (.getfield 18, 3) := by decide +kernel
theorem dX8_meanFrom_43 : decode cX8_meanFrom 43 = .ok (.iload 6, 2) := by decide +kernel
theorem dX8_meanFrom_45 : decode cX8_meanFrom 45 = .ok (.iaload, 1) := by decide +kernel
theorem dX8_meanFrom_46 : decode cX8_meanFrom 46 = .ok (.i2l, 1) := by decide +kernel
theorem dX8_meanFrom_47 : decode cX8_meanFrom 47 = .ok (.ladd, 1) := by decide +kernel
theorem dX8_meanFrom_48 : decode cX8_meanFrom 48 = .ok (.lstore 4, 2) := by decide +kernel
theorem dX8_meanFrom_50 : decode cX8_meanFrom 50 = .ok (.iinc 6 1, 3) := by decide +kernel
theorem dX8_meanFrom_53 : decode cX8_meanFrom 53 = .ok (.goto (-45), 3) := by decide +kernel
theorem dX8_meanFrom_56 : decode cX8_meanFrom 56 = .ok (.lload_n 2, 1) := by decide +kernel
theorem dX8_meanFrom_57 : decode cX8_meanFrom 57 = .ok (.lload 4, 2) := by decide +kernel
theorem dX8_meanFrom_59 : decode cX8_meanFrom 59 = .ok (.invokestatic 43, 3) := by decide +kernel
theorem dX8_meanFrom_62 : decode cX8_meanFrom 62 = .ok (.l2i, 1) := by decide +kernel
theorem dX8_meanFrom_63 : decode cX8_meanFrom 63 = .ok (.ireturn, 1) := by decide +kernel
theorem dX9_init_0 : decode cX9_init 0 = .ok (.aload_n 0, 1) := by decide +kernel
theorem dX9_init_1 : decode cX9_init 1 = .ok (.invokespecial 3, 3) := by decide +kernel
theorem dX9_init_4 : decode cX9_init 4 = .ok (.aload_n 0, 1) := by decide +kernel
theorem dX9_init_5 : decode cX9_init 5 = .ok (.sipush 257, 3) := by decide +kernel
theorem dX9_init_8 : decode cX9_init 8 = .ok (.newarray .float, 2) := by decide +kernel
theorem dX9_init_10 : decode cX9_init 10 = .ok (.putfield 9, 3) := by decide +kernel
theorem dX9_init_13 : decode cX9_init 13 = .ok (.aload_n 0, 1) := by decide +kernel
theorem dX9_init_14 : decode cX9_init 14 = .ok (.aconst_null, 1) := by decide +kernel
theorem dX9_init_15 : decode cX9_init 15 = .ok (.putfield 15, 3) := by decide +kernel
theorem dX9_init_18 : decode cX9_init 18 = .ok (.aload_n 0, 1) := by decide +kernel
theorem dX9_init_19 : decode cX9_init 19 = .ok (.sipush 256, 3) := by decide +kernel
theorem dX9_init_22 : decode cX9_init 22 = .ok (.putfield 19, 3) := by decide +kernel
theorem dX9_init_25 : decode cX9_init 25 = .ok (.aload_n 0, 1) := by decide +kernel
theorem dX9_init_26 : decode cX9_init 26 = .ok (.iconst 0, 1) := by decide +kernel
theorem dX9_init_27 : decode cX9_init 27 = .ok (.putfield 23, 3) := by decide +kernel
theorem dX9_init_30 : decode cX9_init 30 = .ok (.aload_n 0, 1) := by decide +kernel
theorem dX9_init_31 : decode cX9_init 31 = .ok (.dconst 0, 1) := by decide +kernel
theorem dX9_init_32 : decode cX9_init 32 = .ok (.putfield 26, 3) := by decide +kernel
theorem dX9_init_35 : decode cX9_init 35 = .ok (.aload_n 0, 1) := by decide +kernel
theorem dX9_init_36 : decode cX9_init 36 = .ok (.iconst (-1), 1) := by decide +kernel
theorem dX9_init_37 : decode cX9_init 37 = .ok (.putfield 30, 3) := by decide +kernel
theorem dX9_init_40 : decode cX9_init 40 = .ok (.return_, 1) := by decide +kernel
theorem dX9_become_0 : decode cX9_become 0 = .ok (.aload_n 0, 1) := by decide +kernel
theorem dX9_become_1 : decode cX9_become 1 = .ok (.aload_n 1, 1) := by decide +kernel
theorem dX9_become_2 : decode cX9_become 2 = .ok (.putfield 15, 3) := by decide +kernel
theorem dX9_become_5 : decode cX9_become 5 = .ok (.aload_n 0, 1) := by decide +kernel
theorem dX9_become_6 : decode cX9_become 6 = .ok (.iload_n 2, 1) := by decide +kernel
theorem dX9_become_7 : decode cX9_become 7 = .ok (.putfield 19, 3) := by decide +kernel
theorem dX9_become_10 : decode cX9_become 10 = .ok (.aload_n 0, 1) := by decide +kernel
theorem dX9_become_11 : decode cX9_become 11 = .ok (.sipush 4096, 3) := by decide +kernel
theorem dX9_become_14 : decode cX9_become 14 = .ok (.iload_n 2, 1) := by decide +kernel
theorem dX9_become_15 : decode cX9_become 15 = .ok (.idiv, 1) := by decide +kernel
theorem dX9_become_16 : decode cX9_become 16 = .ok (.iconst 1, 1) := by decide +kernel
theorem dX9_become_17 : decode cX9_become 17 = .ok (.iadd, 1) := by decide +kernel
theorem dX9_become_18 : decode cX9_become 18 = .ok (.putfield 23, 3) := by decide +kernel
theorem dX9_become_21 : decode cX9_become 21 = .ok (.aload_n 0, 1) := by decide +kernel
theorem dX9_become_22 : decode cX9_become 22 = .ok (.iconst (-1), 1) := by decide +kernel
theorem dX9_become_23 : decode cX9_become 23 = .ok (.putfield 30, 3) := by decide +kernel
theorem dX9_become_26 : decode cX9_become 26 = .ok (.iconst 0, 1) := by decide +kernel
theorem dX9_become_27 : decode cX9_become 27 = .ok (.istore_n 3, 1) := by decide +kernel
theorem dX9_become_28 : decode cX9_become 28 = .ok (.iload_n 3, 1) := by decide +kernel
theorem dX9_become_29 : decode cX9_become 29 = .ok (.aload_n 0, 1) := by decide +kernel
theorem dX9_become_30 : decode cX9_become 30 = .ok (.getfield 23, 3) := by decide +kernel
theorem dX9_become_33 : decode cX9_become 33 = .ok (.if_icmp .ge 29, 3) := by decide +kernel
theorem dX9_become_36 : decode cX9_become 36 = .ok (.aload_n 0, 1) := by decide +kernel
theorem dX9_become_37 : decode cX9_become 37 = .ok (.getfield 9, 3) := by decide +kernel
theorem dX9_become_40 : decode cX9_become 40 = .ok (.iload_n 3, 1) := by decide +kernel
theorem dX9_become_41 : decode cX9_become 41 = .ok (.aload_n 1, 1) := by decide +kernel
theorem dX9_become_42 : decode cX9_become 42 = .ok (.iload_n 3, 1) := by decide +kernel
theorem dX9_become_43 : decode cX9_become 43 = .ok (.iload_n 2, 1) := by decide +kernel
theorem dX9_become_44 : decode cX9_become 44 = .ok (.imul, 1) := by decide +kernel
theorem dX9_become_45 : decode cX9_become 45 = .ok (.invokestatic 33, 3) := by decide +kernel
theorem dX9_become_48 : decode cX9_become 48 = .ok (.invokevirtual 37, 3) := by decide +kernel
theorem dX9_become_51 : decode cX9_become 51 = .ok (.i2f, 1) := by decide +kernel
theorem dX9_become_52 : decode cX9_become 52 = .ok (.ldc 42, 2) := by decide +kernel
theorem dX9_become_54 : decode cX9_become 54 = .ok (.fmul, 1) := by decide +kernel
theorem dX9_become_55 : decode cX9_become 55 = .ok (.fastore, 1) := by decide +kernel
theorem dX9_become_56 : decode cX9_become 56 = .ok (.iinc 3 1, 3) := by decide +kernel
theorem dX9_become_59 : decode cX9_become 59 = .ok (.goto (-31), 3) := by decide +kernel
theorem dX9_become_62 : decode cX9_become 62 = .ok (.aload_n 0, 1) := by decide +kernel
theorem dX9_become_63 : decode cX9_become 63 = .ok (.getfield 23, 3) := by decide +kernel
theorem dX9_become_66 : decode cX9_become 66 = .ok (.ireturn, 1) := by decide +kernel
theorem dX9_has_0 : decode cX9_has 0 = .ok (.iload_n 1, 1) := by decide +kernel
theorem dX9_has_1 : decode cX9_has 1 = .ok (.ifCond .lt 15, 3) := by decide +kernel
theorem dX9_has_4 : decode cX9_has 4 = .ok (.iload_n 1, 1) := by decide +kernel
theorem dX9_has_5 : decode cX9_has 5 = .ok (.aload_n 0, 1) := by decide +kernel
theorem dX9_has_6 : decode cX9_has 6 = .ok (.getfield 23, 3) := by decide +kernel
theorem dX9_has_9 : decode cX9_has 9 = .ok (.if_icmp .ge 7, 3) := by decide +kernel
theorem dX9_has_12 : decode cX9_has 12 = .ok (.iconst 1, 1) := by decide +kernel
theorem dX9_has_13 : decode cX9_has 13 = .ok (.goto 4, 3) := by decide +kernel
theorem dX9_has_16 : decode cX9_has 16 = .ok (.iconst 0, 1) := by decide +kernel
theorem dX9_has_17 : decode cX9_has 17 = .ok (.ireturn, 1) := by decide +kernel
theorem dX9_read_0 : decode cX9_read 0 = .ok (.iload_n 1, 1) := by decide +kernel
theorem dX9_read_1 : decode cX9_read 1 = .ok (.aload_n 0, 1) := by decide +kernel
theorem dX9_read_2 : decode cX9_read 2 = .ok (.getfield 19, 3) := by decide +kernel
theorem dX9_read_5 : decode cX9_read 5 = .ok (.idiv, 1) := by decide +kernel
theorem dX9_read_6 : decode cX9_read 6 = .ok (.istore_n 2, 1) := by decide +kernel
theorem dX9_read_7 : decode cX9_read 7 = .ok (.iload_n 1, 1) := by decide +kernel
theorem dX9_read_8 : decode cX9_read 8 = .ok (.iload_n 2, 1) := by decide +kernel
theorem dX9_read_9 : decode cX9_read 9 = .ok (.aload_n 0, 1) := by decide +kernel
theorem dX9_read_10 : decode cX9_read 10 = .ok (.getfield 19, 3) := by decide +kernel
theorem dX9_read_13 : decode cX9_read 13 = .ok (.imul, 1) := by decide +kernel
theorem dX9_read_14 : decode cX9_read 14 = .ok (.isub, 1) := by decide +kernel
theorem dX9_read_15 : decode cX9_read 15 = .ok (.i2f, 1) := by decide +kernel
theorem dX9_read_16 : decode cX9_read 16 = .ok (.aload_n 0, 1) := by decide +kernel
theorem dX9_read_17 : decode cX9_read 17 = .ok (.getfield 19, 3) := by decide +kernel
theorem dX9_read_20 : decode cX9_read 20 = .ok (.i2f, 1) := by decide +kernel
theorem dX9_read_21 : decode cX9_read 21 = .ok (.fdiv, 1) := by decide +kernel
theorem dX9_read_22 : decode cX9_read 22 = .ok (.fstore_n 3, 1) := by decide +kernel
theorem dX9_read_23 : decode cX9_read 23 = .ok (.aload_n 0, 1) := by decide +kernel
theorem dX9_read_24 : decode cX9_read 24 = .ok (.getfield 9, 3) := by decide +kernel
theorem dX9_read_27 : decode cX9_read 27 = .ok (.iload_n 2, 1) := by decide +kernel
theorem dX9_read_28 : decode cX9_read 28 = .ok (.faload, 1) := by decide +kernel
theorem dX9_read_29 : decode cX9_read 29 = .ok (.aload_n 0, 1) := by decide +kernel
theorem dX9_read_30 : decode cX9_read 30 = .ok (.getfield 9, 3) := by decide +kernel
theorem dX9_read_33 : decode cX9_read 33 = .ok (.iload_n 2, 1) := by decide +kernel
theorem dX9_read_34 : decode cX9_read 34 = .ok (.iconst 1, 1) := by decide +kernel
theorem dX9_read_35 : decode cX9_read 35 = .ok (.iadd, 1) := by decide +kernel
theorem dX9_read_36 : decode cX9_read 36 = .ok (.faload, 1) := by decide +kernel
theorem dX9_read_37 : decode cX9_read 37 = .ok (.aload_n 0, 1) := by decide +kernel
theorem dX9_read_38 : decode cX9_read 38 = .ok (.getfield 9, 3) := by decide +kernel
theorem dX9_read_41 : decode cX9_read 41 = .ok (.iload_n 2, 1) := by decide +kernel
theorem dX9_read_42 : decode cX9_read 42 = .ok (.faload, 1) := by decide +kernel
theorem dX9_read_43 : decode cX9_read 43 = .ok (.fsub, 1) := by decide +kernel
theorem dX9_read_44 : decode cX9_read 44 = .ok (.fload_n 3, 1) := by decide +kernel
theorem dX9_read_45 : decode cX9_read 45 = .ok (.fmul, 1) := by decide +kernel
theorem dX9_read_46 : decode cX9_read 46 = .ok (.fadd, 1) := by decide +kernel
theorem dX9_read_47 : decode cX9_read 47 = .ok (.freturn, 1) := by decide +kernel
theorem dX9_measure_0 : decode cX9_measure 0 = .ok (.aload_n 0, 1) := by decide +kernel
theorem dX9_measure_1 : decode cX9_measure 1 = .ok (.getfield 30, 3) := by decide +kernel
theorem dX9_measure_4 : decode cX9_measure 4 = .ok (.iconst (-1), 1) := by decide +kernel
theorem dX9_measure_5 : decode cX9_measure 5 = .ok (.if_icmp .ne 10, 3) := by decide +kernel
theorem dX9_measure_8 : decode cX9_measure 8 = .ok (.aload_n 0, 1) := by decide +kernel
theorem dX9_measure_9 : decode cX9_measure 9 = .ok (.getfield 15, 3) := by decide +kernel
theorem dX9_measure_12 : decode cX9_measure 12 = .ok (.ifnonnull 4, 3) := by decide +kernel
theorem dX9_measure_15 : decode cX9_measure 15 = .ok (.return_, 1) := by decide +kernel
theorem dX9_measure_16 : decode cX9_measure 16 = .ok (.aload_n 0, 1) := by decide +kernel
theorem dX9_measure_17 : decode cX9_measure 17 = .ok (.getfield 15, 3) := by decide +kernel
theorem dX9_measure_20 : decode cX9_measure 20 = .ok (.invokevirtual 43, 3) := by decide +kernel
theorem dX9_measure_23 : decode cX9_measure 23 = .ok (.astore_n 1, 1) := by decide +kernel
theorem dX9_measure_24 : decode cX9_measure 24 = .ok (.aload_n 0, 1) := by decide +kernel
theorem dX9_measure_25 : decode cX9_measure 25 = .ok (.ldc2_w 47, 3) := by decide +kernel
theorem dX9_measure_28 : decode cX9_measure 28 = .ok (.putfield 26, 3) := by decide +kernel
theorem dX9_measure_31 : decode cX9_measure 31 = .ok (.iconst 0, 1) := by decide +kernel
theorem dX9_measure_32 : decode cX9_measure 32 = .ok (.istore_n 2, 1) := by decide +kernel
theorem dX9_measure_33 : decode cX9_measure 33 = .ok (.iload_n 2, 1) := by decide +kernel
theorem dX9_measure_34 : decode cX9_measure 34 = .ok (.sipush 4096, 3) := by decide +kernel
theorem dX9_measure_37 : decode cX9_measure 37 = .ok (.if_icmp .ge 60, 3) := by decide +kernel
theorem dX9_measure_40 : decode cX9_measure 40 = .ok (.aload_n 0, 1) := by decide +kernel
theorem dX9_measure_41 : decode cX9_measure 41 = .ok (.iload_n 2, 1) := by decide +kernel
theorem dX9_measure_42 : decode cX9_measure 42 = .ok (.invokevirtual 49, 3) := by decide +kernel
theorem dX9_measure_45 : decode cX9_measure 45 = .ok (.f2d, 1) := by decide +kernel
theorem dX9_measure_46 : decode cX9_measure 46 = .ok (.aload_n 1, 1) := by decide +kernel
theorem dX9_measure_47 : decode cX9_measure 47 = .ok (.iload_n 2, 1) := by decide +kernel
theorem dX9_measure_48 : decode cX9_measure 48 = .ok (.iaload, 1) := by decide +kernel
theorem dX9_measure_49 : decode cX9_measure 49 = .ok (.i2d, 1) := by decide +kernel
theorem dX9_measure_50 : decode cX9_measure 50 = .ok (.ldc2_w 53, 3) := by decide +kernel
theorem dX9_measure_53 : decode cX9_measure 53 = .ok (.dmul, 1) := by decide +kernel
theorem dX9_measure_54 : decode cX9_measure 54 = .ok (.dsub, 1) := by decide +kernel
theorem dX9_measure_55 : decode cX9_measure 55 = .ok (.dstore_n 3, 1) := by decide +kernel
theorem dX9_measure_56 : decode cX9_measure 56 = .ok (.dload_n 3, 1) := by decide +kernel
theorem dX9_measure_57 : decode cX9_measure 57 = .ok (.dconst 0, 1) := by decide +kernel
theorem dX9_measure_58 : decode cX9_measure 58 = .ok (.dcmp .g, 1) := by decide +kernel
theorem dX9_measure_59 : decode cX9_measure 59 = .ok (.ifCond .ge 8, 3) := by decide +kernel
theorem dX9_measure_62 : decode cX9_measure 62 = .ok (.dload_n 3, 1) := by decide +kernel
theorem dX9_measure_63 : decode cX9_measure 63 = .ok (.dneg, 1) := by decide +kernel
theorem dX9_measure_64 : decode cX9_measure 64 = .ok (.goto 4, 3) := by decide +kernel
theorem dX9_measure_67 : decode cX9_measure 67 = .ok (.dload_n 3, 1) := by decide +kernel
theorem dX9_measure_68 : decode cX9_measure 68 = .ok (.dstore 5, 2) := by decide +kernel
theorem dX9_measure_70 : decode cX9_measure 70 = .ok (.dload 5, 2) := by decide +kernel
theorem dX9_measure_72 : decode cX9_measure 72 = .ok (.aload_n 0, 1) := by decide +kernel
theorem dX9_measure_73 : decode cX9_measure 73 = .ok (.getfield 26, 3) := by decide +kernel
theorem dX9_measure_76 : decode cX9_measure 76 = .ok (.dcmp .l, 1) := by decide +kernel
theorem dX9_measure_77 : decode cX9_measure 77 = .ok (.ifCond .le 14, 3) := by decide +kernel
theorem dX9_measure_80 : decode cX9_measure 80 = .ok (.aload_n 0, 1) := by decide +kernel
theorem dX9_measure_81 : decode cX9_measure 81 = .ok (.dload 5, 2) := by decide +kernel
theorem dX9_measure_83 : decode cX9_measure 83 = .ok (.putfield 26, 3) := by decide +kernel
theorem dX9_measure_86 : decode cX9_measure 86 = .ok (.aload_n 0, 1) := by decide +kernel
theorem dX9_measure_87 : decode cX9_measure 87 = .ok (.iload_n 2, 1) := by decide +kernel
theorem dX9_measure_88 : decode cX9_measure 88 = .ok (.putfield 30, 3) := by decide +kernel
theorem dX9_measure_91 : decode cX9_measure 91 = .ok (.iinc 2 1, 3) := by decide +kernel
theorem dX9_measure_94 : decode cX9_measure 94 = .ok (.goto (-61), 3) := by decide +kernel
theorem dX9_measure_97 : decode cX9_measure 97 = .ok (.return_, 1) := by decide +kernel
theorem dX10_init_0 : decode cX10_init 0 = .ok (.aload_n 0, 1) := by decide +kernel
theorem dX10_init_1 : decode cX10_init 1 = .ok (.invokespecial 1, 3) := by decide +kernel
theorem dX10_init_4 : decode cX10_init 4 = .ok (.aload_n 0, 1) := by decide +kernel
theorem dX10_init_5 : decode cX10_init 5 = .ok (.bipush 8, 2) := by decide +kernel
theorem dX10_init_7 : decode cX10_init 7 = .ok (.anewarray 9, 3) := by decide +kernel
theorem dX10_init_10 : decode cX10_init 10 = .ok (.putfield 11, 3) := by decide +kernel
theorem dX10_init_13 : decode cX10_init 13 = .ok (.aload_n 0, 1) := by decide +kernel
theorem dX10_init_14 : decode cX10_init 14 = .ok (.bipush 60, 2) := by decide +kernel
theorem dX10_init_16 : decode cX10_init 16 = .ok (.anewarray 15, 3) := by decide +kernel
theorem dX10_init_19 : decode cX10_init 19 = .ok (.putfield 17, 3) := by decide +kernel
theorem dX10_init_22 : decode cX10_init 22 = .ok (.aload_n 0, 1) := by decide +kernel
theorem dX10_init_23 : decode cX10_init 23 = .ok (.iconst 4, 1) := by decide +kernel
theorem dX10_init_24 : decode cX10_init 24 = .ok (.anewarray 21, 3) := by decide +kernel
theorem dX10_init_27 : decode cX10_init 27 = .ok (.putfield 23, 3) := by decide +kernel
theorem dX10_init_30 : decode cX10_init 30 = .ok (.aload_n 0, 1) := by decide +kernel
theorem dX10_init_31 : decode cX10_init 31 = .ok (.iconst 4, 1) := by decide +kernel
theorem dX10_init_32 : decode cX10_init 32 = .ok (.anewarray 27, 3) := by decide +kernel
theorem dX10_init_35 : decode cX10_init 35 = .ok (.putfield 29, 3) := by decide +kernel
theorem dX10_init_38 : decode cX10_init 38 = .ok (.aload_n 0, 1) := by decide +kernel
theorem dX10_init_39 : decode cX10_init 39 = .ok (.new 33, 3) := by decide +kernel
theorem dX10_init_42 : decode cX10_init 42 = .ok (.dup, 1) := by decide +kernel
theorem dX10_init_43 : decode cX10_init 43 = .ok (.invokespecial 35, 3) := by decide +kernel
theorem dX10_init_46 : decode cX10_init 46 = .ok (.putfield 36, 3) := by decide +kernel
theorem dX10_init_49 : decode cX10_init 49 = .ok (.aload_n 0, 1) := by decide +kernel
theorem dX10_init_50 : decode cX10_init 50 = .ok (.new 40, 3) := by decide +kernel
theorem dX10_init_53 : decode cX10_init 53 = .ok (.dup, 1) := by decide +kernel
theorem dX10_init_54 : decode cX10_init 54 = .ok (.invokespecial 42, 3) := by decide +kernel
theorem dX10_init_57 : decode cX10_init 57 = .ok (.putfield 43, 3) := by decide +kernel
theorem dX10_init_60 : decode cX10_init 60 = .ok (.aload_n 0, 1) := by decide +kernel
theorem dX10_init_61 : decode cX10_init 61 = .ok (.iconst 0, 1) := by decide +kernel
theorem dX10_init_62 : decode cX10_init 62 = .ok (.putfield 47, 3) := by decide +kernel
theorem dX10_init_65 : decode cX10_init 65 = .ok (.iconst 0, 1) := by decide +kernel
theorem dX10_init_66 : decode cX10_init 66 = .ok (.istore_n 1, 1) := by decide +kernel
theorem dX10_init_67 : decode cX10_init 67 = .ok (.iload_n 1, 1) := by decide +kernel
theorem dX10_init_68 : decode cX10_init 68 = .ok (.bipush 8, 2) := by decide +kernel
theorem dX10_init_70 : decode cX10_init 70 = .ok (.if_icmp .ge 22, 3) := by decide +kernel
theorem dX10_init_73 : decode cX10_init 73 = .ok (.aload_n 0, 1) := by decide +kernel
theorem dX10_init_74 : decode cX10_init 74 = .ok (.getfield 11, 3) := by decide +kernel
theorem dX10_init_77 : decode cX10_init 77 = .ok (.iload_n 1, 1) := by decide +kernel
theorem dX10_init_78 : decode cX10_init 78 = .ok (.new 9, 3) := by decide +kernel
theorem dX10_init_81 : decode cX10_init 81 = .ok (.dup, 1) := by decide +kernel
theorem dX10_init_82 : decode cX10_init 82 = .ok (.invokespecial 51, 3) := by decide +kernel
theorem dX10_init_85 : decode cX10_init 85 = .ok (.aastore, 1) := by decide +kernel
theorem dX10_init_86 : decode cX10_init 86 = .ok (.iinc 1 1, 3) := by decide +kernel
theorem dX10_init_89 : decode cX10_init 89 = .ok (.goto (-22), 3) := by decide +kernel
theorem dX10_init_92 : decode cX10_init 92 = .ok (.iconst 0, 1) := by decide +kernel
theorem dX10_init_93 : decode cX10_init 93 = .ok (.istore_n 1, 1) := by decide +kernel
theorem dX10_init_94 : decode cX10_init 94 = .ok (.iload_n 1, 1) := by decide +kernel
theorem dX10_init_95 : decode cX10_init 95 = .ok (.iconst 4, 1) := by decide +kernel
theorem dX10_init_96 : decode cX10_init 96 = .ok (.if_icmp .ge 22, 3) := by decide +kernel
theorem dX10_init_99 : decode cX10_init 99 = .ok (.aload_n 0, 1) := by decide +kernel
theorem dX10_init_100 : decode cX10_init 100 = .ok (.getfield 23, 3) := by decide +kernel
theorem dX10_init_103 : decode cX10_init 103 = .ok (.iload_n 1, 1) := by decide +kernel
theorem dX10_init_104 : decode cX10_init 104 = .ok (.new 21, 3) := by decide +kernel
theorem dX10_init_107 : decode cX10_init 107 = .ok (.dup, 1) := by decide +kernel
theorem dX10_init_108 : decode cX10_init 108 = .ok (.invokespecial 52, 3) := by decide +kernel
theorem dX10_init_111 : decode cX10_init 111 = .ok (.aastore, 1) := by decide +kernel
theorem dX10_init_112 : decode cX10_init 112 = .ok (.iinc 1 1, 3) := by decide +kernel
theorem dX10_init_115 : decode cX10_init 115 = .ok (.goto (-21), 3) := by decide +kernel
theorem dX10_init_118 : decode cX10_init 118 = .ok (.return_, 1) := by decide +kernel
theorem dX10_reading_0 : decode cX10_reading 0 = .ok (.aload_n 0, 1) := by decide +kernel
theorem dX10_reading_1 : decode cX10_reading 1 = .ok (.iload_n 1, 1) := by decide +kernel
theorem dX10_reading_2 : decode cX10_reading 2 = .ok (.invokevirtual 53, 3) := by decide +kernel
theorem dX10_reading_5 : decode cX10_reading 5 = .ok (.astore 5, 2) := by decide +kernel
theorem dX10_reading_7 : decode cX10_reading 7 = .ok (.aload 5, 2) := by decide +kernel
theorem dX10_reading_9 : decode cX10_reading 9 = .ok (.ifnull 20, 3) := by decide +kernel
theorem dX10_reading_12 : decode cX10_reading 12 = .ok (.iload_n 2, 1) := by decide +kernel
theorem dX10_reading_13 : decode cX10_reading 13 = .ok (.invokestatic 57, 3) := by decide +kernel
theorem dX10_reading_16 : decode cX10_reading 16 = .ok (.ifCond .eq 13, 3) := by decide +kernel
theorem dX10_reading_19 : decode cX10_reading 19 = .ok (.iload_n 3, 1) := by decide +kernel
theorem dX10_reading_20 : decode cX10_reading 20 = .ok (.sipush 10000, 3) := by decide +kernel
theorem dX10_reading_23 : decode cX10_reading 23 = .ok (.invokestatic 61, 3) := by decide +kernel
theorem dX10_reading_26 : decode cX10_reading 26 = .ok (.ifCond .ne 6, 3) := by decide +kernel
theorem dX10_reading_29 : decode cX10_reading 29 = .ok (.bipush (-2), 2) := by decide +kernel
theorem dX10_reading_31 : decode cX10_reading 31 = .ok (.ireturn, 1) := by decide +kernel
theorem dX10_reading_32 : decode cX10_reading 32 = .ok (.iload 4, 2) := by decide +kernel
theorem dX10_reading_34 : decode cX10_reading 34 = .ok (.iconst 1, 1) := by decide +kernel
theorem dX10_reading_35 : decode cX10_reading 35 = .ok (.if_icmp .lt 20, 3) := by decide +kernel
theorem dX10_reading_38 : decode cX10_reading 38 = .ok (.iload 4, 2) := by decide +kernel
theorem dX10_reading_40 : decode cX10_reading 40 = .ok (.bipush 20, 2) := by decide +kernel
theorem dX10_reading_42 : decode cX10_reading 42 = .ok (.if_icmp .gt 13, 3) := by decide +kernel
theorem dX10_reading_45 : decode cX10_reading 45 = .ok (.aload 5, 2) := by decide +kernel
theorem dX10_reading_47 : decode cX10_reading 47 = .ok (.getfield 65, 3) := by decide +kernel
theorem dX10_reading_50 : decode cX10_reading 50 = .ok (.bipush 24, 2) := by decide +kernel
theorem dX10_reading_52 : decode cX10_reading 52 = .ok (.if_icmp .lt 6, 3) := by decide +kernel
theorem dX10_reading_55 : decode cX10_reading 55 = .ok (.bipush (-2), 2) := by decide +kernel
theorem dX10_reading_57 : decode cX10_reading 57 = .ok (.ireturn, 1) := by decide +kernel
theorem dX10_reading_58 : decode cX10_reading 58 = .ok (.aload 5, 2) := by decide +kernel
theorem dX10_reading_60 : decode cX10_reading 60 = .ok (.iload_n 2, 1) := by decide +kernel
theorem dX10_reading_61 : decode cX10_reading 61 = .ok (.iload_n 3, 1) := by decide +kernel
theorem dX10_reading_62 : decode cX10_reading 62 = .ok (.iload 4, 2) := by decide +kernel
theorem dX10_reading_64 : decode cX10_reading 64 = .ok (.invokevirtual 68, 3) := by decide +kernel
theorem dX10_reading_67 : decode cX10_reading 67 = .ok (.aload 5, 2) := by decide +kernel
theorem dX10_reading_69 : decode cX10_reading 69 = .ok (.getfield 65, 3) := by decide +kernel
theorem dX10_reading_72 : decode cX10_reading 72 = .ok (.ireturn, 1) := by decide +kernel
theorem dX10_drop_0 : decode cX10_drop 0 = .ok (.aload_n 0, 1) := by decide +kernel
theorem dX10_drop_1 : decode cX10_drop 1 = .ok (.iload_n 1, 1) := by decide +kernel
theorem dX10_drop_2 : decode cX10_drop 2 = .ok (.invokevirtual 53, 3) := by decide +kernel
theorem dX10_drop_5 : decode cX10_drop 5 = .ok (.astore_n 3, 1) := by decide +kernel
theorem dX10_drop_6 : decode cX10_drop 6 = .ok (.aload_n 3, 1) := by decide +kernel
theorem dX10_drop_7 : decode cX10_drop 7 = .ok (.ifnull 11, 3) := by decide +kernel
theorem dX10_drop_10 : decode cX10_drop 10 = .ok (.aload_n 3, 1) := by decide +kernel
theorem dX10_drop_11 : decode cX10_drop 11 = .ok (.iload_n 2, 1) := by decide +kernel
theorem dX10_drop_12 : decode cX10_drop 12 = .ok (.invokevirtual 72, 3) := by decide +kernel
theorem dX10_drop_15 : decode cX10_drop 15 = .ok (.ifCond .ne 6, 3) := by decide +kernel
theorem dX10_drop_18 : decode cX10_drop 18 = .ok (.bipush (-2), 2) := by decide +kernel
theorem dX10_drop_20 : decode cX10_drop 20 = .ok (.ireturn, 1) := by decide +kernel
theorem dX10_drop_21 : decode cX10_drop 21 = .ok (.aload_n 3, 1) := by decide +kernel
theorem dX10_drop_22 : decode cX10_drop 22 = .ok (.iload_n 2, 1) := by decide +kernel
theorem dX10_drop_23 : decode cX10_drop 23 = .ok (.invokevirtual 75, 3) := by decide +kernel
theorem dX10_drop_26 : decode cX10_drop 26 = .ok (.aload_n 3, 1) := by decide +kernel
theorem dX10_drop_27 : decode cX10_drop 27 = .ok (.getfield 65, 3) := by decide +kernel
theorem dX10_drop_30 : decode cX10_drop 30 = .ok (.ireturn, 1) := by decide +kernel
theorem dX10_readings_0 : decode cX10_readings 0 = .ok (.aload_n 0, 1) := by decide +kernel
theorem dX10_readings_1 : decode cX10_readings 1 = .ok (.iload_n 1, 1) := by decide +kernel
theorem dX10_readings_2 : decode cX10_readings 2 = .ok (.invokevirtual 53, 3) := by decide +kernel
theorem dX10_readings_5 : decode cX10_readings 5 = .ok (.astore_n 2, 1) := by decide +kernel
theorem dX10_readings_6 : decode cX10_readings 6 = .ok (.aload_n 2, 1) := by decide +kernel
theorem dX10_readings_7 : decode cX10_readings 7 = .ok (.ifnonnull 8, 3) := by decide +kernel
theorem dX10_readings_10 : decode cX10_readings 10 = .ok (.bipush (-2), 2) := by decide +kernel
theorem dX10_readings_12 : decode cX10_readings 12 = .ok (.goto 7, 3) := by decide +kernel
theorem dX10_readings_15 : decode cX10_readings 15 = .ok (.aload_n 2, 1) := by decide +kernel
theorem dX10_readings_16 : decode cX10_readings 16 = .ok (.getfield 65, 3) := by decide +kernel
theorem dX10_readings_19 : decode cX10_readings 19 = .ok (.ireturn, 1) := by decide +kernel
theorem dX10_line_0 : decode cX10_line 0 = .ok (.aload_n 0, 1) := by decide +kernel
theorem dX10_line_1 : decode cX10_line 1 = .ok (.iload_n 1, 1) := by decide +kernel
theorem dX10_line_2 : decode cX10_line 2 = .ok (.invokevirtual 53, 3) := by decide +kernel
theorem dX10_line_5 : decode cX10_line 5 = .ok (.astore_n 2, 1) := by decide +kernel
theorem dX10_line_6 : decode cX10_line 6 = .ok (.aload_n 2, 1) := by decide +kernel
theorem dX10_line_7 : decode cX10_line 7 = .ok (.ifnull 11, 3) := by decide +kernel
theorem dX10_line_10 : decode cX10_line 10 = .ok (.aload_n 0, 1) := by decide +kernel
theorem dX10_line_11 : decode cX10_line 11 = .ok (.iconst 1, 1) := by decide +kernel
theorem dX10_line_12 : decode cX10_line 12 = .ok (.invokevirtual 79, 3) := by decide +kernel
theorem dX10_line_15 : decode cX10_line 15 = .ok (.ifCond .ne 6, 3) := by decide +kernel
theorem dX10_line_18 : decode cX10_line 18 = .ok (.bipush (-2), 2) := by decide +kernel
theorem dX10_line_20 : decode cX10_line 20 = .ok (.ireturn, 1) := by decide +kernel
theorem dX10_line_21 : decode cX10_line 21 = .ok (.aload_n 2, 1) := by decide +kernel
theorem dX10_line_22 : decode cX10_line 22 = .ok (.invokevirtual 82, 3) := by decide +kernel
theorem dX10_line_25 : decode cX10_line 25 = .ok (.ifCond .ne 6, 3) := by decide +kernel
theorem dX10_line_28 : decode cX10_line 28 = .ok (.bipush (-3), 2) := by decide +kernel
theorem dX10_line_30 : decode cX10_line 30 = .ok (.ireturn, 1) := by decide +kernel
theorem dX10_line_31 : decode cX10_line 31 = .ok (.aload_n 0, 1) := by decide +kernel
theorem dX10_line_32 : decode cX10_line 32 = .ok (.aload_n 2, 1) := by decide +kernel
theorem dX10_line_33 : decode cX10_line 33 = .ok (.invokevirtual 86, 3) := by decide +kernel
theorem dX10_line_36 : decode cX10_line 36 = .ok (.invokevirtual 90, 3) := by decide +kernel
theorem dX10_line_39 : decode cX10_line 39 = .ok (.ireturn, 1) := by decide +kernel
theorem dX10_knot_0 : decode cX10_knot 0 = .ok (.iload_n 1, 1) := by decide +kernel
theorem dX10_knot_1 : decode cX10_knot 1 = .ok (.invokestatic 57, 3) := by decide +kernel
theorem dX10_knot_4 : decode cX10_knot 4 = .ok (.ifCond .eq 24, 3) := by decide +kernel
theorem dX10_knot_7 : decode cX10_knot 7 = .ok (.iload_n 1, 1) := by decide +kernel
theorem dX10_knot_8 : decode cX10_knot 8 = .ok (.aload_n 0, 1) := by decide +kernel
theorem dX10_knot_9 : decode cX10_knot 9 = .ok (.getfield 43, 3) := by decide +kernel
theorem dX10_knot_12 : decode cX10_knot 12 = .ok (.invokevirtual 94, 3) := by decide +kernel
theorem dX10_knot_15 : decode cX10_knot 15 = .ok (.if_icmp .le 13, 3) := by decide +kernel
theorem dX10_knot_18 : decode cX10_knot 18 = .ok (.iload_n 2, 1) := by decide +kernel
theorem dX10_knot_19 : decode cX10_knot 19 = .ok (.sipush 10000, 3) := by decide +kernel
theorem dX10_knot_22 : decode cX10_knot 22 = .ok (.invokestatic 61, 3) := by decide +kernel
theorem dX10_knot_25 : decode cX10_knot 25 = .ok (.ifCond .ne 6, 3) := by decide +kernel
theorem dX10_knot_28 : decode cX10_knot 28 = .ok (.bipush (-2), 2) := by decide +kernel
theorem dX10_knot_30 : decode cX10_knot 30 = .ok (.ireturn, 1) := by decide +kernel
theorem dX10_knot_31 : decode cX10_knot 31 = .ok (.aload_n 0, 1) := by decide +kernel
theorem dX10_knot_32 : decode cX10_knot 32 = .ok (.getfield 43, 3) := by decide +kernel
theorem dX10_knot_35 : decode cX10_knot 35 = .ok (.getfield 98, 3) := by decide +kernel
theorem dX10_knot_38 : decode cX10_knot 38 = .ok (.bipush 32, 2) := by decide +kernel
theorem dX10_knot_40 : decode cX10_knot 40 = .ok (.if_icmp .lt 6, 3) := by decide +kernel
theorem dX10_knot_43 : decode cX10_knot 43 = .ok (.bipush (-2), 2) := by decide +kernel
theorem dX10_knot_45 : decode cX10_knot 45 = .ok (.ireturn, 1) := by decide +kernel
theorem dX10_knot_46 : decode cX10_knot 46 = .ok (.aload_n 0, 1) := by decide +kernel
theorem dX10_knot_47 : decode cX10_knot 47 = .ok (.getfield 43, 3) := by decide +kernel
theorem dX10_knot_50 : decode cX10_knot 50 = .ok (.iload_n 1, 1) := by decide +kernel
theorem dX10_knot_51 : decode cX10_knot 51 = .ok (.iload_n 2, 1) := by decide +kernel
theorem dX10_knot_52 : decode cX10_knot 52 = .ok (.invokevirtual 99, 3) := by decide +kernel
theorem dX10_knot_55 : decode cX10_knot 55 = .ok (.aload_n 0, 1) := by decide +kernel
theorem dX10_knot_56 : decode cX10_knot 56 = .ok (.getfield 43, 3) := by decide +kernel
theorem dX10_knot_59 : decode cX10_knot 59 = .ok (.getfield 98, 3) := by decide +kernel
theorem dX10_knot_62 : decode cX10_knot 62 = .ok (.ireturn, 1) := by decide +kernel
theorem dX10_hush_0 : decode cX10_hush 0 = .ok (.aload_n 0, 1) := by decide +kernel
theorem dX10_hush_1 : decode cX10_hush 1 = .ok (.getfield 43, 3) := by decide +kernel
theorem dX10_hush_4 : decode cX10_hush 4 = .ok (.getfield 98, 3) := by decide +kernel
theorem dX10_hush_7 : decode cX10_hush 7 = .ok (.istore_n 1, 1) := by decide +kernel
theorem dX10_hush_8 : decode cX10_hush 8 = .ok (.aload_n 0, 1) := by decide +kernel
theorem dX10_hush_9 : decode cX10_hush 9 = .ok (.getfield 43, 3) := by decide +kernel
theorem dX10_hush_12 : decode cX10_hush 12 = .ok (.iconst 0, 1) := by decide +kernel
theorem dX10_hush_13 : decode cX10_hush 13 = .ok (.putfield 98, 3) := by decide +kernel
theorem dX10_hush_16 : decode cX10_hush 16 = .ok (.iload_n 1, 1) := by decide +kernel
theorem dX10_hush_17 : decode cX10_hush 17 = .ok (.ireturn, 1) := by decide +kernel
theorem dX10_pieces_0 : decode cX10_pieces 0 = .ok (.aload_n 0, 1) := by decide +kernel
theorem dX10_pieces_1 : decode cX10_pieces 1 = .ok (.getfield 43, 3) := by decide +kernel
theorem dX10_pieces_4 : decode cX10_pieces 4 = .ok (.getfield 98, 3) := by decide +kernel
theorem dX10_pieces_7 : decode cX10_pieces 7 = .ok (.ifCond .eq 11, 3) := by decide +kernel
theorem dX10_pieces_10 : decode cX10_pieces 10 = .ok (.aload_n 0, 1) := by decide +kernel
theorem dX10_pieces_11 : decode cX10_pieces 11 = .ok (.iconst 1, 1) := by decide +kernel
theorem dX10_pieces_12 : decode cX10_pieces 12 = .ok (.invokevirtual 79, 3) := by decide +kernel
theorem dX10_pieces_15 : decode cX10_pieces 15 = .ok (.ifCond .ne 6, 3) := by decide +kernel
theorem dX10_pieces_18 : decode cX10_pieces 18 = .ok (.bipush (-2), 2) := by decide +kernel
theorem dX10_pieces_20 : decode cX10_pieces 20 = .ok (.ireturn, 1) := by decide +kernel
theorem dX10_pieces_21 : decode cX10_pieces 21 = .ok (.aload_n 0, 1) := by decide +kernel
theorem dX10_pieces_22 : decode cX10_pieces 22 = .ok (.getfield 43, 3) := by decide +kernel
theorem dX10_pieces_25 : decode cX10_pieces 25 = .ok (.astore_n 1, 1) := by decide +kernel
theorem dX10_pieces_26 : decode cX10_pieces 26 = .ok (.aload_n 0, 1) := by decide +kernel
theorem dX10_pieces_27 : decode cX10_pieces 27 = .ok (.new 40, 3) := by decide +kernel
theorem dX10_pieces_30 : decode cX10_pieces 30 = .ok (.dup, 1) := by decide +kernel
theorem dX10_pieces_31 : decode cX10_pieces 31 = .ok (.invokespecial 42, 3) := by decide +kernel
theorem dX10_pieces_34 : decode cX10_pieces 34 = .ok (.putfield 43, 3) := by decide +kernel
theorem dX10_pieces_37 : decode cX10_pieces 37 = .ok (.aload_n 0, 1) := by decide +kernel
theorem dX10_pieces_38 : decode cX10_pieces 38 = .ok (.new 102, 3) := by decide +kernel
theorem dX10_pieces_41 : decode cX10_pieces 41 = .ok (.dup, 1) := by decide +kernel
theorem dX10_pieces_42 : decode cX10_pieces 42 = .ok (.aload_n 1, 1) := by decide +kernel
theorem dX10_pieces_43 : decode cX10_pieces 43 = .ok (.invokespecial 104, 3) := by decide +kernel
theorem dX10_pieces_46 : decode cX10_pieces 46 = .ok (.invokevirtual 90, 3) := by decide +kernel
theorem dX10_pieces_49 : decode cX10_pieces 49 = .ok (.ireturn, 1) := by decide +kernel
theorem dX10_gather_0 : decode cX10_gather 0 = .ok (.aload_n 0, 1) := by decide +kernel
theorem dX10_gather_1 : decode cX10_gather 1 = .ok (.iload_n 1, 1) := by decide +kernel
theorem dX10_gather_2 : decode cX10_gather 2 = .ok (.invokevirtual 53, 3) := by decide +kernel
theorem dX10_gather_5 : decode cX10_gather 5 = .ok (.astore_n 2, 1) := by decide +kernel
theorem dX10_gather_6 : decode cX10_gather 6 = .ok (.aload_n 2, 1) := by decide +kernel
theorem dX10_gather_7 : decode cX10_gather 7 = .ok (.ifnonnull 6, 3) := by decide +kernel
theorem dX10_gather_10 : decode cX10_gather 10 = .ok (.bipush (-2), 2) := by decide +kernel
theorem dX10_gather_12 : decode cX10_gather 12 = .ok (.ireturn, 1) := by decide +kernel
theorem dX10_gather_13 : decode cX10_gather 13 = .ok (.aload_n 0, 1) := by decide +kernel
theorem dX10_gather_14 : decode cX10_gather 14 = .ok (.getfield 43, 3) := by decide +kernel
theorem dX10_gather_17 : decode cX10_gather 17 = .ok (.iconst 0, 1) := by decide +kernel
theorem dX10_gather_18 : decode cX10_gather 18 = .ok (.putfield 98, 3) := by decide +kernel
theorem dX10_gather_21 : decode cX10_gather 21 = .ok (.aload_n 2, 1) := by decide +kernel
theorem dX10_gather_22 : decode cX10_gather 22 = .ok (.aload_n 0, 1) := by decide +kernel
theorem dX10_gather_23 : decode cX10_gather 23 = .ok (.getfield 43, 3) := by decide +kernel
theorem dX10_gather_26 : decode cX10_gather 26 = .ok (.invokevirtual 107, 3) := by decide +kernel
theorem dX10_gather_29 : decode cX10_gather 29 = .ok (.aload_n 0, 1) := by decide +kernel
theorem dX10_gather_30 : decode cX10_gather 30 = .ok (.getfield 43, 3) := by decide +kernel
theorem dX10_gather_33 : decode cX10_gather 33 = .ok (.getfield 98, 3) := by decide +kernel
theorem dX10_gather_36 : decode cX10_gather 36 = .ok (.ireturn, 1) := by decide +kernel
theorem dX10_clamp_0 : decode cX10_clamp 0 = .ok (.aload_n 0, 1) := by decide +kernel
theorem dX10_clamp_1 : decode cX10_clamp 1 = .ok (.iload_n 1, 1) := by decide +kernel
theorem dX10_clamp_2 : decode cX10_clamp 2 = .ok (.invokevirtual 110, 3) := by decide +kernel
theorem dX10_clamp_5 : decode cX10_clamp 5 = .ok (.astore 4, 2) := by decide +kernel
theorem dX10_clamp_7 : decode cX10_clamp 7 = .ok (.aload 4, 2) := by decide +kernel
theorem dX10_clamp_9 : decode cX10_clamp 9 = .ok (.ifnull 36, 3) := by decide +kernel
theorem dX10_clamp_12 : decode cX10_clamp 12 = .ok (.iload_n 2, 1) := by decide +kernel
theorem dX10_clamp_13 : decode cX10_clamp 13 = .ok (.iload_n 3, 1) := by decide +kernel
theorem dX10_clamp_14 : decode cX10_clamp 14 = .ok (.if_icmp .gt 31, 3) := by decide +kernel
theorem dX10_clamp_17 : decode cX10_clamp 17 = .ok (.iload_n 2, 1) := by decide +kernel
theorem dX10_clamp_18 : decode cX10_clamp 18 = .ok (.invokestatic 114, 3) := by decide +kernel
theorem dX10_clamp_21 : decode cX10_clamp 21 = .ok (.ifCond .eq 24, 3) := by decide +kernel
theorem dX10_clamp_24 : decode cX10_clamp 24 = .ok (.iload_n 3, 1) := by decide +kernel
theorem dX10_clamp_25 : decode cX10_clamp 25 = .ok (.invokestatic 114, 3) := by decide +kernel
theorem dX10_clamp_28 : decode cX10_clamp 28 = .ok (.ifCond .eq 17, 3) := by decide +kernel
theorem dX10_clamp_31 : decode cX10_clamp 31 = .ok (.aload_n 0, 1) := by decide +kernel
theorem dX10_clamp_32 : decode cX10_clamp 32 = .ok (.iconst 1, 1) := by decide +kernel
theorem dX10_clamp_33 : decode cX10_clamp 33 = .ok (.aload 4, 2) := by decide +kernel
theorem dX10_clamp_35 : decode cX10_clamp 35 = .ok (.getfield 117, 3) := by decide +kernel
theorem dX10_clamp_38 : decode cX10_clamp 38 = .ok (.iadd, 1) := by decide +kernel
theorem dX10_clamp_39 : decode cX10_clamp 39 = .ok (.invokevirtual 79, 3) := by decide +kernel
theorem dX10_clamp_42 : decode cX10_clamp 42 = .ok (.ifCond .ne 6, 3) := by decide +kernel
theorem dX10_clamp_45 : decode cX10_clamp 45 = .ok (.bipush (-2), 2) := by decide +kernel
theorem dX10_clamp_47 : decode cX10_clamp 47 = .ok (.ireturn, 1) := by decide +kernel
theorem dX10_clamp_48 : decode cX10_clamp 48 = .ok (.aload_n 0, 1) := by decide +kernel
theorem dX10_clamp_49 : decode cX10_clamp 49 = .ok (.new 120, 3) := by decide +kernel
theorem dX10_clamp_52 : decode cX10_clamp 52 = .ok (.dup, 1) := by decide +kernel
theorem dX10_clamp_53 : decode cX10_clamp 53 = .ok (.iconst 2, 1) := by decide +kernel
theorem dX10_clamp_54 : decode cX10_clamp 54 = .ok (.aload 4, 2) := by decide +kernel
theorem dX10_clamp_56 : decode cX10_clamp 56 = .ok (.aconst_null, 1) := by decide +kernel
theorem dX10_clamp_57 : decode cX10_clamp 57 = .ok (.iload_n 2, 1) := by decide +kernel
theorem dX10_clamp_58 : decode cX10_clamp 58 = .ok (.iload_n 3, 1) := by decide +kernel
theorem dX10_clamp_59 : decode cX10_clamp 59 = .ok (.iconst 0, 1) := by decide +kernel
theorem dX10_clamp_60 : decode cX10_clamp 60 = .ok (.invokespecial 122, 3) := by decide +kernel
theorem dX10_clamp_63 : decode cX10_clamp 63 = .ok (.invokevirtual 90, 3) := by decide +kernel
theorem dX10_clamp_66 : decode cX10_clamp 66 = .ok (.ireturn, 1) := by decide +kernel
theorem dX10_dead_0 : decode cX10_dead 0 = .ok (.aload_n 0, 1) := by decide +kernel
theorem dX10_dead_1 : decode cX10_dead 1 = .ok (.iload_n 1, 1) := by decide +kernel
theorem dX10_dead_2 : decode cX10_dead 2 = .ok (.invokevirtual 110, 3) := by decide +kernel
theorem dX10_dead_5 : decode cX10_dead 5 = .ok (.astore 5, 2) := by decide +kernel
theorem dX10_dead_7 : decode cX10_dead 7 = .ok (.aload 5, 2) := by decide +kernel
theorem dX10_dead_9 : decode cX10_dead 9 = .ok (.ifnull 30, 3) := by decide +kernel
theorem dX10_dead_12 : decode cX10_dead 12 = .ok (.iload_n 2, 1) := by decide +kernel
theorem dX10_dead_13 : decode cX10_dead 13 = .ok (.iload_n 3, 1) := by decide +kernel
theorem dX10_dead_14 : decode cX10_dead 14 = .ok (.if_icmp .gt 25, 3) := by decide +kernel
theorem dX10_dead_17 : decode cX10_dead 17 = .ok (.iload_n 2, 1) := by decide +kernel
theorem dX10_dead_18 : decode cX10_dead 18 = .ok (.invokestatic 114, 3) := by decide +kernel
theorem dX10_dead_21 : decode cX10_dead 21 = .ok (.ifCond .eq 18, 3) := by decide +kernel
theorem dX10_dead_24 : decode cX10_dead 24 = .ok (.iload_n 3, 1) := by decide +kernel
theorem dX10_dead_25 : decode cX10_dead 25 = .ok (.invokestatic 114, 3) := by decide +kernel
theorem dX10_dead_28 : decode cX10_dead 28 = .ok (.ifCond .eq 11, 3) := by decide +kernel
theorem dX10_dead_31 : decode cX10_dead 31 = .ok (.iload 4, 2) := by decide +kernel
theorem dX10_dead_33 : decode cX10_dead 33 = .ok (.invokestatic 114, 3) := by decide +kernel
theorem dX10_dead_36 : decode cX10_dead 36 = .ok (.ifCond .ne 6, 3) := by decide +kernel
theorem dX10_dead_39 : decode cX10_dead 39 = .ok (.bipush (-2), 2) := by decide +kernel
theorem dX10_dead_41 : decode cX10_dead 41 = .ok (.ireturn, 1) := by decide +kernel
theorem dX10_dead_42 : decode cX10_dead 42 = .ok (.aload_n 0, 1) := by decide +kernel
theorem dX10_dead_43 : decode cX10_dead 43 = .ok (.iconst 1, 1) := by decide +kernel
theorem dX10_dead_44 : decode cX10_dead 44 = .ok (.aload 5, 2) := by decide +kernel
theorem dX10_dead_46 : decode cX10_dead 46 = .ok (.getfield 117, 3) := by decide +kernel
theorem dX10_dead_49 : decode cX10_dead 49 = .ok (.iadd, 1) := by decide +kernel
theorem dX10_dead_50 : decode cX10_dead 50 = .ok (.invokevirtual 79, 3) := by decide +kernel
theorem dX10_dead_53 : decode cX10_dead 53 = .ok (.ifCond .ne 6, 3) := by decide +kernel
theorem dX10_dead_56 : decode cX10_dead 56 = .ok (.bipush (-2), 2) := by decide +kernel
theorem dX10_dead_58 : decode cX10_dead 58 = .ok (.ireturn, 1) := by decide +kernel
theorem dX10_dead_59 : decode cX10_dead 59 = .ok (.aload_n 0, 1) := by decide +kernel
theorem dX10_dead_60 : decode cX10_dead 60 = .ok (.new 120, 3) := by decide +kernel
theorem dX10_dead_63 : decode cX10_dead 63 = .ok (.dup, 1) := by decide +kernel
theorem dX10_dead_64 : decode cX10_dead 64 = .ok (.iconst 3, 1) := by decide +kernel
theorem dX10_dead_65 : decode cX10_dead 65 = .ok (.aload 5, 2) := by decide +kernel
theorem dX10_dead_67 : decode cX10_dead 67 = .ok (.aconst_null, 1) := by decide +kernel
theorem dX10_dead_68 : decode cX10_dead 68 = .ok (.iload_n 2, 1) := by decide +kernel
theorem dX10_dead_69 : decode cX10_dead 69 = .ok (.iload_n 3, 1) := by decide +kernel
theorem dX10_dead_70 : decode cX10_dead 70 = .ok (.iload 4, 2) := by decide +kernel
theorem dX10_dead_72 : decode cX10_dead 72 = .ok (.invokespecial 122, 3) := by decide +kernel
theorem dX10_dead_75 : decode cX10_dead 75 = .ok (.invokevirtual 90, 3) := by decide +kernel
theorem dX10_dead_78 : decode cX10_dead 78 = .ok (.ireturn, 1) := by decide +kernel
theorem dX10_chain_0 : decode cX10_chain 0 = .ok (.aload_n 0, 1) := by decide +kernel
theorem dX10_chain_1 : decode cX10_chain 1 = .ok (.iload_n 1, 1) := by decide +kernel
theorem dX10_chain_2 : decode cX10_chain 2 = .ok (.invokevirtual 110, 3) := by decide +kernel
theorem dX10_chain_5 : decode cX10_chain 5 = .ok (.astore_n 3, 1) := by decide +kernel
theorem dX10_chain_6 : decode cX10_chain 6 = .ok (.aload_n 0, 1) := by decide +kernel
theorem dX10_chain_7 : decode cX10_chain 7 = .ok (.iload_n 2, 1) := by decide +kernel
theorem dX10_chain_8 : decode cX10_chain 8 = .ok (.invokevirtual 110, 3) := by decide +kernel
theorem dX10_chain_11 : decode cX10_chain 11 = .ok (.astore 4, 2) := by decide +kernel
theorem dX10_chain_13 : decode cX10_chain 13 = .ok (.aload_n 3, 1) := by decide +kernel
theorem dX10_chain_14 : decode cX10_chain 14 = .ok (.ifnull 27, 3) := by decide +kernel
theorem dX10_chain_17 : decode cX10_chain 17 = .ok (.aload 4, 2) := by decide +kernel
theorem dX10_chain_19 : decode cX10_chain 19 = .ok (.ifnull 22, 3) := by decide +kernel
theorem dX10_chain_22 : decode cX10_chain 22 = .ok (.aload_n 0, 1) := by decide +kernel
theorem dX10_chain_23 : decode cX10_chain 23 = .ok (.iconst 1, 1) := by decide +kernel
theorem dX10_chain_24 : decode cX10_chain 24 = .ok (.aload_n 3, 1) := by decide +kernel
theorem dX10_chain_25 : decode cX10_chain 25 = .ok (.getfield 117, 3) := by decide +kernel
theorem dX10_chain_28 : decode cX10_chain 28 = .ok (.iadd, 1) := by decide +kernel
theorem dX10_chain_29 : decode cX10_chain 29 = .ok (.aload 4, 2) := by decide +kernel
theorem dX10_chain_31 : decode cX10_chain 31 = .ok (.getfield 117, 3) := by decide +kernel
theorem dX10_chain_34 : decode cX10_chain 34 = .ok (.iadd, 1) := by decide +kernel
theorem dX10_chain_35 : decode cX10_chain 35 = .ok (.invokevirtual 79, 3) := by decide +kernel
theorem dX10_chain_38 : decode cX10_chain 38 = .ok (.ifCond .ne 6, 3) := by decide +kernel
theorem dX10_chain_41 : decode cX10_chain 41 = .ok (.bipush (-2), 2) := by decide +kernel
theorem dX10_chain_43 : decode cX10_chain 43 = .ok (.ireturn, 1) := by decide +kernel
theorem dX10_chain_44 : decode cX10_chain 44 = .ok (.aload_n 0, 1) := by decide +kernel
theorem dX10_chain_45 : decode cX10_chain 45 = .ok (.new 120, 3) := by decide +kernel
theorem dX10_chain_48 : decode cX10_chain 48 = .ok (.dup, 1) := by decide +kernel
theorem dX10_chain_49 : decode cX10_chain 49 = .ok (.iconst 4, 1) := by decide +kernel
theorem dX10_chain_50 : decode cX10_chain 50 = .ok (.aload 4, 2) := by decide +kernel
theorem dX10_chain_52 : decode cX10_chain 52 = .ok (.aload_n 3, 1) := by decide +kernel
theorem dX10_chain_53 : decode cX10_chain 53 = .ok (.iconst 0, 1) := by decide +kernel
theorem dX10_chain_54 : decode cX10_chain 54 = .ok (.iconst 0, 1) := by decide +kernel
theorem dX10_chain_55 : decode cX10_chain 55 = .ok (.iconst 0, 1) := by decide +kernel
theorem dX10_chain_56 : decode cX10_chain 56 = .ok (.invokespecial 122, 3) := by decide +kernel
theorem dX10_chain_59 : decode cX10_chain 59 = .ok (.invokevirtual 90, 3) := by decide +kernel
theorem dX10_chain_62 : decode cX10_chain 62 = .ok (.ireturn, 1) := by decide +kernel
theorem dX10_gain_0 : decode cX10_gain 0 = .ok (.aload_n 0, 1) := by decide +kernel
theorem dX10_gain_1 : decode cX10_gain 1 = .ok (.iload_n 1, 1) := by decide +kernel
theorem dX10_gain_2 : decode cX10_gain 2 = .ok (.invokevirtual 110, 3) := by decide +kernel
theorem dX10_gain_5 : decode cX10_gain 5 = .ok (.astore 5, 2) := by decide +kernel
theorem dX10_gain_7 : decode cX10_gain 7 = .ok (.aload 5, 2) := by decide +kernel
theorem dX10_gain_9 : decode cX10_gain 9 = .ok (.ifnull 25, 3) := by decide +kernel
theorem dX10_gain_12 : decode cX10_gain 12 = .ok (.iload_n 2, 1) := by decide +kernel
theorem dX10_gain_13 : decode cX10_gain 13 = .ok (.sipush 1000, 3) := by decide +kernel
theorem dX10_gain_16 : decode cX10_gain 16 = .ok (.invokestatic 61, 3) := by decide +kernel
theorem dX10_gain_19 : decode cX10_gain 19 = .ok (.ifCond .eq 15, 3) := by decide +kernel
theorem dX10_gain_22 : decode cX10_gain 22 = .ok (.iload_n 3, 1) := by decide +kernel
theorem dX10_gain_23 : decode cX10_gain 23 = .ok (.iconst 1, 1) := by decide +kernel
theorem dX10_gain_24 : decode cX10_gain 24 = .ok (.if_icmp .lt 10, 3) := by decide +kernel
theorem dX10_gain_27 : decode cX10_gain 27 = .ok (.iload_n 3, 1) := by decide +kernel
theorem dX10_gain_28 : decode cX10_gain 28 = .ok (.sipush 1000, 3) := by decide +kernel
theorem dX10_gain_31 : decode cX10_gain 31 = .ok (.if_icmp .le 6, 3) := by decide +kernel
theorem dX10_gain_34 : decode cX10_gain 34 = .ok (.bipush (-2), 2) := by decide +kernel
theorem dX10_gain_36 : decode cX10_gain 36 = .ok (.ireturn, 1) := by decide +kernel
theorem dX10_gain_37 : decode cX10_gain 37 = .ok (.iload 4, 2) := by decide +kernel
theorem dX10_gain_39 : decode cX10_gain 39 = .ok (.invokestatic 114, 3) := by decide +kernel
theorem dX10_gain_42 : decode cX10_gain 42 = .ok (.ifCond .eq 17, 3) := by decide +kernel
theorem dX10_gain_45 : decode cX10_gain 45 = .ok (.aload_n 0, 1) := by decide +kernel
theorem dX10_gain_46 : decode cX10_gain 46 = .ok (.iconst 1, 1) := by decide +kernel
theorem dX10_gain_47 : decode cX10_gain 47 = .ok (.aload 5, 2) := by decide +kernel
theorem dX10_gain_49 : decode cX10_gain 49 = .ok (.getfield 117, 3) := by decide +kernel
theorem dX10_gain_52 : decode cX10_gain 52 = .ok (.iadd, 1) := by decide +kernel
theorem dX10_gain_53 : decode cX10_gain 53 = .ok (.invokevirtual 79, 3) := by decide +kernel
theorem dX10_gain_56 : decode cX10_gain 56 = .ok (.ifCond .ne 6, 3) := by decide +kernel
theorem dX10_gain_59 : decode cX10_gain 59 = .ok (.bipush (-2), 2) := by decide +kernel
theorem dX10_gain_61 : decode cX10_gain 61 = .ok (.ireturn, 1) := by decide +kernel
theorem dX10_gain_62 : decode cX10_gain 62 = .ok (.aload_n 0, 1) := by decide +kernel
theorem dX10_gain_63 : decode cX10_gain 63 = .ok (.new 120, 3) := by decide +kernel
theorem dX10_gain_66 : decode cX10_gain 66 = .ok (.dup, 1) := by decide +kernel
theorem dX10_gain_67 : decode cX10_gain 67 = .ok (.iconst 5, 1) := by decide +kernel
theorem dX10_gain_68 : decode cX10_gain 68 = .ok (.aload 5, 2) := by decide +kernel
theorem dX10_gain_70 : decode cX10_gain 70 = .ok (.aconst_null, 1) := by decide +kernel
theorem dX10_gain_71 : decode cX10_gain 71 = .ok (.iload_n 2, 1) := by decide +kernel
theorem dX10_gain_72 : decode cX10_gain 72 = .ok (.iload_n 3, 1) := by decide +kernel
theorem dX10_gain_73 : decode cX10_gain 73 = .ok (.iload 4, 2) := by decide +kernel
theorem dX10_gain_75 : decode cX10_gain 75 = .ok (.invokespecial 122, 3) := by decide +kernel
theorem dX10_gain_78 : decode cX10_gain 78 = .ok (.invokevirtual 90, 3) := by decide +kernel
theorem dX10_gain_81 : decode cX10_gain 81 = .ok (.ireturn, 1) := by decide +kernel
theorem dX10_mirror_0 : decode cX10_mirror 0 = .ok (.aload_n 0, 1) := by decide +kernel
theorem dX10_mirror_1 : decode cX10_mirror 1 = .ok (.iload_n 1, 1) := by decide +kernel
theorem dX10_mirror_2 : decode cX10_mirror 2 = .ok (.invokevirtual 110, 3) := by decide +kernel
theorem dX10_mirror_5 : decode cX10_mirror 5 = .ok (.astore_n 2, 1) := by decide +kernel
theorem dX10_mirror_6 : decode cX10_mirror 6 = .ok (.aload_n 2, 1) := by decide +kernel
theorem dX10_mirror_7 : decode cX10_mirror 7 = .ok (.ifnull 16, 3) := by decide +kernel
theorem dX10_mirror_10 : decode cX10_mirror 10 = .ok (.aload_n 0, 1) := by decide +kernel
theorem dX10_mirror_11 : decode cX10_mirror 11 = .ok (.iconst 1, 1) := by decide +kernel
theorem dX10_mirror_12 : decode cX10_mirror 12 = .ok (.aload_n 2, 1) := by decide +kernel
theorem dX10_mirror_13 : decode cX10_mirror 13 = .ok (.getfield 117, 3) := by decide +kernel
theorem dX10_mirror_16 : decode cX10_mirror 16 = .ok (.iadd, 1) := by decide +kernel
theorem dX10_mirror_17 : decode cX10_mirror 17 = .ok (.invokevirtual 79, 3) := by decide +kernel
theorem dX10_mirror_20 : decode cX10_mirror 20 = .ok (.ifCond .ne 6, 3) := by decide +kernel
theorem dX10_mirror_23 : decode cX10_mirror 23 = .ok (.bipush (-2), 2) := by decide +kernel
theorem dX10_mirror_25 : decode cX10_mirror 25 = .ok (.ireturn, 1) := by decide +kernel
theorem dX10_mirror_26 : decode cX10_mirror 26 = .ok (.aload_n 0, 1) := by decide +kernel
theorem dX10_mirror_27 : decode cX10_mirror 27 = .ok (.new 120, 3) := by decide +kernel
theorem dX10_mirror_30 : decode cX10_mirror 30 = .ok (.dup, 1) := by decide +kernel
theorem dX10_mirror_31 : decode cX10_mirror 31 = .ok (.bipush 6, 2) := by decide +kernel
theorem dX10_mirror_33 : decode cX10_mirror 33 = .ok (.aload_n 2, 1) := by decide +kernel
theorem dX10_mirror_34 : decode cX10_mirror 34 = .ok (.aconst_null, 1) := by decide +kernel
theorem dX10_mirror_35 : decode cX10_mirror 35 = .ok (.iconst 0, 1) := by decide +kernel
theorem dX10_mirror_36 : decode cX10_mirror 36 = .ok (.iconst 0, 1) := by decide +kernel
theorem dX10_mirror_37 : decode cX10_mirror 37 = .ok (.iconst 0, 1) := by decide +kernel
theorem dX10_mirror_38 : decode cX10_mirror 38 = .ok (.invokespecial 122, 3) := by decide +kernel
theorem dX10_mirror_41 : decode cX10_mirror 41 = .ok (.invokevirtual 90, 3) := by decide +kernel
theorem dX10_mirror_44 : decode cX10_mirror 44 = .ok (.ireturn, 1) := by decide +kernel
theorem dX10_value_0 : decode cX10_value 0 = .ok (.aload_n 0, 1) := by decide +kernel
theorem dX10_value_1 : decode cX10_value 1 = .ok (.iload_n 1, 1) := by decide +kernel
theorem dX10_value_2 : decode cX10_value 2 = .ok (.invokevirtual 110, 3) := by decide +kernel
theorem dX10_value_5 : decode cX10_value 5 = .ok (.astore_n 3, 1) := by decide +kernel
theorem dX10_value_6 : decode cX10_value 6 = .ok (.aload_n 3, 1) := by decide +kernel
theorem dX10_value_7 : decode cX10_value 7 = .ok (.ifnull 10, 3) := by decide +kernel
theorem dX10_value_10 : decode cX10_value 10 = .ok (.iload_n 2, 1) := by decide +kernel
theorem dX10_value_11 : decode cX10_value 11 = .ok (.invokestatic 57, 3) := by decide +kernel
theorem dX10_value_14 : decode cX10_value 14 = .ok (.ifCond .ne 8, 3) := by decide +kernel
theorem dX10_value_17 : decode cX10_value 17 = .ok (.ldc 125, 2) := by decide +kernel
theorem dX10_value_19 : decode cX10_value 19 = .ok (.goto 8, 3) := by decide +kernel
theorem dX10_value_22 : decode cX10_value 22 = .ok (.aload_n 3, 1) := by decide +kernel
theorem dX10_value_23 : decode cX10_value 23 = .ok (.iload_n 2, 1) := by decide +kernel
theorem dX10_value_24 : decode cX10_value 24 = .ok (.invokevirtual 126, 3) := by decide +kernel
theorem dX10_value_27 : decode cX10_value 27 = .ok (.ireturn, 1) := by decide +kernel
theorem dX10_about_0 : decode cX10_about 0 = .ok (.aload_n 0, 1) := by decide +kernel
theorem dX10_about_1 : decode cX10_about 1 = .ok (.iload_n 1, 1) := by decide +kernel
theorem dX10_about_2 : decode cX10_about 2 = .ok (.invokevirtual 110, 3) := by decide +kernel
theorem dX10_about_5 : decode cX10_about 5 = .ok (.astore_n 3, 1) := by decide +kernel
theorem dX10_about_6 : decode cX10_about 6 = .ok (.aload_n 3, 1) := by decide +kernel
theorem dX10_about_7 : decode cX10_about 7 = .ok (.ifnonnull 6, 3) := by decide +kernel
theorem dX10_about_10 : decode cX10_about 10 = .ok (.ldc 125, 2) := by decide +kernel
theorem dX10_about_12 : decode cX10_about 12 = .ok (.ireturn, 1) := by decide +kernel
theorem dX10_about_13 : decode cX10_about 13 = .ok (.iload_n 2, 1) := by decide +kernel
theorem dX10_about_14 : decode cX10_about 14 = .ok (.tableswitch 80 0 5 #[38, 43, 48, 56, 64, 72], 38) := by decide +kernel
theorem dX10_about_52 : decode cX10_about 52 = .ok (.aload_n 3, 1) := by decide +kernel
theorem dX10_about_53 : decode cX10_about 53 = .ok (.getfield 130, 3) := by decide +kernel
theorem dX10_about_56 : decode cX10_about 56 = .ok (.ireturn, 1) := by decide +kernel
theorem dX10_about_57 : decode cX10_about 57 = .ok (.aload_n 3, 1) := by decide +kernel
theorem dX10_about_58 : decode cX10_about 58 = .ok (.getfield 117, 3) := by decide +kernel
theorem dX10_about_61 : decode cX10_about 61 = .ok (.ireturn, 1) := by decide +kernel
theorem dX10_about_62 : decode cX10_about 62 = .ok (.aload_n 3, 1) := by decide +kernel
theorem dX10_about_63 : decode cX10_about 63 = .ok (.invokevirtual 133, 3) := by decide +kernel
theorem dX10_about_66 : decode cX10_about 66 = .ok (.getfield 137, 3) := by decide +kernel
theorem dX10_about_69 : decode cX10_about 69 = .ok (.ireturn, 1) := by decide +kernel
theorem dX10_about_70 : decode cX10_about 70 = .ok (.aload_n 3, 1) := by decide +kernel
theorem dX10_about_71 : decode cX10_about 71 = .ok (.invokevirtual 133, 3) := by decide +kernel
theorem dX10_about_74 : decode cX10_about 74 = .ok (.getfield 142, 3) := by decide +kernel
theorem dX10_about_77 : decode cX10_about 77 = .ok (.ireturn, 1) := by decide +kernel
theorem dX10_about_78 : decode cX10_about 78 = .ok (.aload_n 3, 1) := by decide +kernel
theorem dX10_about_79 : decode cX10_about 79 = .ok (.invokevirtual 133, 3) := by decide +kernel
theorem dX10_about_82 : decode cX10_about 82 = .ok (.getfield 145, 3) := by decide +kernel
theorem dX10_about_85 : decode cX10_about 85 = .ok (.ireturn, 1) := by decide +kernel
theorem dX10_about_86 : decode cX10_about 86 = .ok (.aload_n 3, 1) := by decide +kernel
theorem dX10_about_87 : decode cX10_about 87 = .ok (.invokevirtual 133, 3) := by decide +kernel
theorem dX10_about_90 : decode cX10_about 90 = .ok (.getfield 148, 3) := by decide +kernel
theorem dX10_about_93 : decode cX10_about 93 = .ok (.ireturn, 1) := by decide +kernel
theorem dX10_about_94 : decode cX10_about 94 = .ok (.ldc 125, 2) := by decide +kernel
theorem dX10_about_96 : decode cX10_about 96 = .ok (.ireturn, 1) := by decide +kernel
theorem dX10_turn_0 : decode cX10_turn 0 = .ok (.aload_n 0, 1) := by decide +kernel
theorem dX10_turn_1 : decode cX10_turn 1 = .ok (.iload_n 1, 1) := by decide +kernel
theorem dX10_turn_2 : decode cX10_turn 2 = .ok (.invokevirtual 110, 3) := by decide +kernel
theorem dX10_turn_5 : decode cX10_turn 5 = .ok (.astore_n 3, 1) := by decide +kernel
theorem dX10_turn_6 : decode cX10_turn 6 = .ok (.aload_n 3, 1) := by decide +kernel
theorem dX10_turn_7 : decode cX10_turn 7 = .ok (.ifnonnull 8, 3) := by decide +kernel
theorem dX10_turn_10 : decode cX10_turn 10 = .ok (.bipush (-2), 2) := by decide +kernel
theorem dX10_turn_12 : decode cX10_turn 12 = .ok (.goto 11, 3) := by decide +kernel
theorem dX10_turn_15 : decode cX10_turn 15 = .ok (.aload_n 3, 1) := by decide +kernel
theorem dX10_turn_16 : decode cX10_turn 16 = .ok (.invokevirtual 133, 3) := by decide +kernel
theorem dX10_turn_19 : decode cX10_turn 19 = .ok (.iload_n 2, 1) := by decide +kernel
theorem dX10_turn_20 : decode cX10_turn 20 = .ok (.invokevirtual 151, 3) := by decide +kernel
theorem dX10_turn_23 : decode cX10_turn 23 = .ok (.ireturn, 1) := by decide +kernel
theorem dX10_inverse_0 : decode cX10_inverse 0 = .ok (.aload_n 0, 1) := by decide +kernel
theorem dX10_inverse_1 : decode cX10_inverse 1 = .ok (.iload_n 1, 1) := by decide +kernel
theorem dX10_inverse_2 : decode cX10_inverse 2 = .ok (.invokevirtual 110, 3) := by decide +kernel
theorem dX10_inverse_5 : decode cX10_inverse 5 = .ok (.astore_n 3, 1) := by decide +kernel
theorem dX10_inverse_6 : decode cX10_inverse 6 = .ok (.aload_n 3, 1) := by decide +kernel
theorem dX10_inverse_7 : decode cX10_inverse 7 = .ok (.ifnonnull 8, 3) := by decide +kernel
theorem dX10_inverse_10 : decode cX10_inverse 10 = .ok (.bipush (-2), 2) := by decide +kernel
theorem dX10_inverse_12 : decode cX10_inverse 12 = .ok (.goto 11, 3) := by decide +kernel
theorem dX10_inverse_15 : decode cX10_inverse 15 = .ok (.aload_n 3, 1) := by decide +kernel
theorem dX10_inverse_16 : decode cX10_inverse 16 = .ok (.invokevirtual 133, 3) := by decide +kernel
theorem dX10_inverse_19 : decode cX10_inverse 19 = .ok (.iload_n 2, 1) := by decide +kernel
theorem dX10_inverse_20 : decode cX10_inverse 20 = .ok (.invokevirtual 154, 3) := by decide +kernel
theorem dX10_inverse_23 : decode cX10_inverse 23 = .ok (.ireturn, 1) := by decide +kernel
theorem dX10_residual_0 : decode cX10_residual 0 = .ok (.aload_n 0, 1) := by decide +kernel
theorem dX10_residual_1 : decode cX10_residual 1 = .ok (.iload_n 1, 1) := by decide +kernel
theorem dX10_residual_2 : decode cX10_residual 2 = .ok (.invokevirtual 53, 3) := by decide +kernel
theorem dX10_residual_5 : decode cX10_residual 5 = .ok (.astore 4, 2) := by decide +kernel
theorem dX10_residual_7 : decode cX10_residual 7 = .ok (.aload_n 0, 1) := by decide +kernel
theorem dX10_residual_8 : decode cX10_residual 8 = .ok (.iload_n 3, 1) := by decide +kernel
theorem dX10_residual_9 : decode cX10_residual 9 = .ok (.invokevirtual 110, 3) := by decide +kernel
theorem dX10_residual_12 : decode cX10_residual 12 = .ok (.astore 5, 2) := by decide +kernel
theorem dX10_residual_14 : decode cX10_residual 14 = .ok (.aload 4, 2) := by decide +kernel
theorem dX10_residual_16 : decode cX10_residual 16 = .ok (.ifnull 17, 3) := by decide +kernel
theorem dX10_residual_19 : decode cX10_residual 19 = .ok (.aload 4, 2) := by decide +kernel
theorem dX10_residual_21 : decode cX10_residual 21 = .ok (.iload_n 2, 1) := by decide +kernel
theorem dX10_residual_22 : decode cX10_residual 22 = .ok (.invokevirtual 72, 3) := by decide +kernel
theorem dX10_residual_25 : decode cX10_residual 25 = .ok (.ifCond .eq 8, 3) := by decide +kernel
theorem dX10_residual_28 : decode cX10_residual 28 = .ok (.aload 5, 2) := by decide +kernel
theorem dX10_residual_30 : decode cX10_residual 30 = .ok (.ifnonnull 6, 3) := by decide +kernel
theorem dX10_residual_33 : decode cX10_residual 33 = .ok (.ldc 125, 2) := by decide +kernel
theorem dX10_residual_35 : decode cX10_residual 35 = .ok (.ireturn, 1) := by decide +kernel
theorem dX10_residual_36 : decode cX10_residual 36 = .ok (.aload 4, 2) := by decide +kernel
theorem dX10_residual_38 : decode cX10_residual 38 = .ok (.aload 5, 2) := by decide +kernel
theorem dX10_residual_40 : decode cX10_residual 40 = .ok (.iload_n 2, 1) := by decide +kernel
theorem dX10_residual_41 : decode cX10_residual 41 = .ok (.invokevirtual 157, 3) := by decide +kernel
theorem dX10_residual_44 : decode cX10_residual 44 = .ok (.ireturn, 1) := by decide +kernel
theorem dX10_worst_0 : decode cX10_worst 0 = .ok (.aload_n 0, 1) := by decide +kernel
theorem dX10_worst_1 : decode cX10_worst 1 = .ok (.iload_n 1, 1) := by decide +kernel
theorem dX10_worst_2 : decode cX10_worst 2 = .ok (.invokevirtual 53, 3) := by decide +kernel
theorem dX10_worst_5 : decode cX10_worst 5 = .ok (.astore_n 3, 1) := by decide +kernel
theorem dX10_worst_6 : decode cX10_worst 6 = .ok (.aload_n 0, 1) := by decide +kernel
theorem dX10_worst_7 : decode cX10_worst 7 = .ok (.iload_n 2, 1) := by decide +kernel
theorem dX10_worst_8 : decode cX10_worst 8 = .ok (.invokevirtual 110, 3) := by decide +kernel
theorem dX10_worst_11 : decode cX10_worst 11 = .ok (.astore 4, 2) := by decide +kernel
theorem dX10_worst_13 : decode cX10_worst 13 = .ok (.aload_n 3, 1) := by decide +kernel
theorem dX10_worst_14 : decode cX10_worst 14 = .ok (.ifnull 8, 3) := by decide +kernel
theorem dX10_worst_17 : decode cX10_worst 17 = .ok (.aload 4, 2) := by decide +kernel
theorem dX10_worst_19 : decode cX10_worst 19 = .ok (.ifnonnull 8, 3) := by decide +kernel
theorem dX10_worst_22 : decode cX10_worst 22 = .ok (.bipush (-2), 2) := by decide +kernel
theorem dX10_worst_24 : decode cX10_worst 24 = .ok (.goto 9, 3) := by decide +kernel
theorem dX10_worst_27 : decode cX10_worst 27 = .ok (.aload_n 3, 1) := by decide +kernel
theorem dX10_worst_28 : decode cX10_worst 28 = .ok (.aload 4, 2) := by decide +kernel
theorem dX10_worst_30 : decode cX10_worst 30 = .ok (.invokevirtual 161, 3) := by decide +kernel
theorem dX10_worst_33 : decode cX10_worst 33 = .ok (.ireturn, 1) := by decide +kernel
theorem dX10_squares_0 : decode cX10_squares 0 = .ok (.aload_n 0, 1) := by decide +kernel
theorem dX10_squares_1 : decode cX10_squares 1 = .ok (.iload_n 1, 1) := by decide +kernel
theorem dX10_squares_2 : decode cX10_squares 2 = .ok (.invokevirtual 53, 3) := by decide +kernel
theorem dX10_squares_5 : decode cX10_squares 5 = .ok (.astore_n 3, 1) := by decide +kernel
theorem dX10_squares_6 : decode cX10_squares 6 = .ok (.aload_n 0, 1) := by decide +kernel
theorem dX10_squares_7 : decode cX10_squares 7 = .ok (.iload_n 2, 1) := by decide +kernel
theorem dX10_squares_8 : decode cX10_squares 8 = .ok (.invokevirtual 110, 3) := by decide +kernel
theorem dX10_squares_11 : decode cX10_squares 11 = .ok (.astore 4, 2) := by decide +kernel
theorem dX10_squares_13 : decode cX10_squares 13 = .ok (.aload_n 3, 1) := by decide +kernel
theorem dX10_squares_14 : decode cX10_squares 14 = .ok (.ifnull 8, 3) := by decide +kernel
theorem dX10_squares_17 : decode cX10_squares 17 = .ok (.aload 4, 2) := by decide +kernel
theorem dX10_squares_19 : decode cX10_squares 19 = .ok (.ifnonnull 9, 3) := by decide +kernel
theorem dX10_squares_22 : decode cX10_squares 22 = .ok (.ldc2_w 164, 3) := by decide +kernel
theorem dX10_squares_25 : decode cX10_squares 25 = .ok (.goto 9, 3) := by decide +kernel
theorem dX10_squares_28 : decode cX10_squares 28 = .ok (.aload_n 3, 1) := by decide +kernel
theorem dX10_squares_29 : decode cX10_squares 29 = .ok (.aload 4, 2) := by decide +kernel
theorem dX10_squares_31 : decode cX10_squares 31 = .ok (.invokevirtual 166, 3) := by decide +kernel
theorem dX10_squares_34 : decode cX10_squares 34 = .ok (.lreturn, 1) := by decide +kernel
theorem dX10_drift_0 : decode cX10_drift 0 = .ok (.aload_n 0, 1) := by decide +kernel
theorem dX10_drift_1 : decode cX10_drift 1 = .ok (.iload_n 1, 1) := by decide +kernel
theorem dX10_drift_2 : decode cX10_drift 2 = .ok (.invokevirtual 53, 3) := by decide +kernel
theorem dX10_drift_5 : decode cX10_drift 5 = .ok (.astore_n 3, 1) := by decide +kernel
theorem dX10_drift_6 : decode cX10_drift 6 = .ok (.aload_n 0, 1) := by decide +kernel
theorem dX10_drift_7 : decode cX10_drift 7 = .ok (.iload_n 2, 1) := by decide +kernel
theorem dX10_drift_8 : decode cX10_drift 8 = .ok (.invokevirtual 110, 3) := by decide +kernel
theorem dX10_drift_11 : decode cX10_drift 11 = .ok (.astore 4, 2) := by decide +kernel
theorem dX10_drift_13 : decode cX10_drift 13 = .ok (.aload_n 3, 1) := by decide +kernel
theorem dX10_drift_14 : decode cX10_drift 14 = .ok (.ifnull 15, 3) := by decide +kernel
theorem dX10_drift_17 : decode cX10_drift 17 = .ok (.aload 4, 2) := by decide +kernel
theorem dX10_drift_19 : decode cX10_drift 19 = .ok (.ifnull 10, 3) := by decide +kernel
theorem dX10_drift_22 : decode cX10_drift 22 = .ok (.aload_n 3, 1) := by decide +kernel
theorem dX10_drift_23 : decode cX10_drift 23 = .ok (.getfield 65, 3) := by decide +kernel
theorem dX10_drift_26 : decode cX10_drift 26 = .ok (.ifCond .ne 6, 3) := by decide +kernel
theorem dX10_drift_29 : decode cX10_drift 29 = .ok (.ldc 125, 2) := by decide +kernel
theorem dX10_drift_31 : decode cX10_drift 31 = .ok (.ireturn, 1) := by decide +kernel
theorem dX10_drift_32 : decode cX10_drift 32 = .ok (.aload_n 3, 1) := by decide +kernel
theorem dX10_drift_33 : decode cX10_drift 33 = .ok (.aload 4, 2) := by decide +kernel
theorem dX10_drift_35 : decode cX10_drift 35 = .ok (.invokevirtual 170, 3) := by decide +kernel
theorem dX10_drift_38 : decode cX10_drift 38 = .ok (.ireturn, 1) := by decide +kernel
theorem dX10_probe_0 : decode cX10_probe 0 = .ok (.aload_n 0, 1) := by decide +kernel
theorem dX10_probe_1 : decode cX10_probe 1 = .ok (.iload_n 1, 1) := by decide +kernel
theorem dX10_probe_2 : decode cX10_probe 2 = .ok (.invokevirtual 173, 3) := by decide +kernel
theorem dX10_probe_5 : decode cX10_probe 5 = .ok (.astore 5, 2) := by decide +kernel
theorem dX10_probe_7 : decode cX10_probe 7 = .ok (.aload_n 0, 1) := by decide +kernel
theorem dX10_probe_8 : decode cX10_probe 8 = .ok (.iload_n 2, 1) := by decide +kernel
theorem dX10_probe_9 : decode cX10_probe 9 = .ok (.invokevirtual 110, 3) := by decide +kernel
theorem dX10_probe_12 : decode cX10_probe 12 = .ok (.astore 6, 2) := by decide +kernel
theorem dX10_probe_14 : decode cX10_probe 14 = .ok (.aload 5, 2) := by decide +kernel
theorem dX10_probe_16 : decode cX10_probe 16 = .ok (.ifnull 17, 3) := by decide +kernel
theorem dX10_probe_19 : decode cX10_probe 19 = .ok (.aload 6, 2) := by decide +kernel
theorem dX10_probe_21 : decode cX10_probe 21 = .ok (.ifnull 12, 3) := by decide +kernel
theorem dX10_probe_24 : decode cX10_probe 24 = .ok (.iload_n 3, 1) := by decide +kernel
theorem dX10_probe_25 : decode cX10_probe 25 = .ok (.ifCond .lt 8, 3) := by decide +kernel
theorem dX10_probe_28 : decode cX10_probe 28 = .ok (.iload_n 3, 1) := by decide +kernel
theorem dX10_probe_29 : decode cX10_probe 29 = .ok (.iconst 2, 1) := by decide +kernel
theorem dX10_probe_30 : decode cX10_probe 30 = .ok (.if_icmp .le 6, 3) := by decide +kernel
theorem dX10_probe_33 : decode cX10_probe 33 = .ok (.bipush (-2), 2) := by decide +kernel
theorem dX10_probe_35 : decode cX10_probe 35 = .ok (.ireturn, 1) := by decide +kernel
theorem dX10_probe_36 : decode cX10_probe 36 = .ok (.iload 4, 2) := by decide +kernel
theorem dX10_probe_38 : decode cX10_probe 38 = .ok (.iconst 1, 1) := by decide +kernel
theorem dX10_probe_39 : decode cX10_probe 39 = .ok (.if_icmp .lt 10, 3) := by decide +kernel
theorem dX10_probe_42 : decode cX10_probe 42 = .ok (.iload 4, 2) := by decide +kernel
theorem dX10_probe_44 : decode cX10_probe 44 = .ok (.bipush 9, 2) := by decide +kernel
theorem dX10_probe_46 : decode cX10_probe 46 = .ok (.if_icmp .le 6, 3) := by decide +kernel
theorem dX10_probe_49 : decode cX10_probe 49 = .ok (.bipush (-2), 2) := by decide +kernel
theorem dX10_probe_51 : decode cX10_probe 51 = .ok (.ireturn, 1) := by decide +kernel
theorem dX10_probe_52 : decode cX10_probe 52 = .ok (.aload 5, 2) := by decide +kernel
theorem dX10_probe_54 : decode cX10_probe 54 = .ok (.aload 6, 2) := by decide +kernel
theorem dX10_probe_56 : decode cX10_probe 56 = .ok (.iload_n 3, 1) := by decide +kernel
theorem dX10_probe_57 : decode cX10_probe 57 = .ok (.iload 4, 2) := by decide +kernel
theorem dX10_probe_59 : decode cX10_probe 59 = .ok (.invokevirtual 177, 3) := by decide +kernel
theorem dX10_probe_62 : decode cX10_probe 62 = .ok (.iconst 1, 1) := by decide +kernel
theorem dX10_probe_63 : decode cX10_probe 63 = .ok (.ireturn, 1) := by decide +kernel
theorem dX10_feed_0 : decode cX10_feed 0 = .ok (.aload_n 0, 1) := by decide +kernel
theorem dX10_feed_1 : decode cX10_feed 1 = .ok (.iload_n 1, 1) := by decide +kernel
theorem dX10_feed_2 : decode cX10_feed 2 = .ok (.invokevirtual 173, 3) := by decide +kernel
theorem dX10_feed_5 : decode cX10_feed 5 = .ok (.astore_n 3, 1) := by decide +kernel
theorem dX10_feed_6 : decode cX10_feed 6 = .ok (.aload_n 3, 1) := by decide +kernel
theorem dX10_feed_7 : decode cX10_feed 7 = .ok (.ifnull 10, 3) := by decide +kernel
theorem dX10_feed_10 : decode cX10_feed 10 = .ok (.iload_n 2, 1) := by decide +kernel
theorem dX10_feed_11 : decode cX10_feed 11 = .ok (.invokestatic 57, 3) := by decide +kernel
theorem dX10_feed_14 : decode cX10_feed 14 = .ok (.ifCond .ne 8, 3) := by decide +kernel
theorem dX10_feed_17 : decode cX10_feed 17 = .ok (.bipush (-2), 2) := by decide +kernel
theorem dX10_feed_19 : decode cX10_feed 19 = .ok (.goto 8, 3) := by decide +kernel
theorem dX10_feed_22 : decode cX10_feed 22 = .ok (.aload_n 3, 1) := by decide +kernel
theorem dX10_feed_23 : decode cX10_feed 23 = .ok (.iload_n 2, 1) := by decide +kernel
theorem dX10_feed_24 : decode cX10_feed 24 = .ok (.invokevirtual 181, 3) := by decide +kernel
theorem dX10_feed_27 : decode cX10_feed 27 = .ok (.ireturn, 1) := by decide +kernel
theorem dX10_probed_0 : decode cX10_probed 0 = .ok (.aload_n 0, 1) := by decide +kernel
theorem dX10_probed_1 : decode cX10_probed 1 = .ok (.iload_n 1, 1) := by decide +kernel
theorem dX10_probed_2 : decode cX10_probed 2 = .ok (.invokevirtual 173, 3) := by decide +kernel
theorem dX10_probed_5 : decode cX10_probed 5 = .ok (.astore_n 2, 1) := by decide +kernel
theorem dX10_probed_6 : decode cX10_probed 6 = .ok (.aload_n 2, 1) := by decide +kernel
theorem dX10_probed_7 : decode cX10_probed 7 = .ok (.ifnonnull 8, 3) := by decide +kernel
theorem dX10_probed_10 : decode cX10_probed 10 = .ok (.ldc 125, 2) := by decide +kernel
theorem dX10_probed_12 : decode cX10_probed 12 = .ok (.goto 7, 3) := by decide +kernel
theorem dX10_probed_15 : decode cX10_probed 15 = .ok (.aload_n 2, 1) := by decide +kernel
theorem dX10_probed_16 : decode cX10_probed 16 = .ok (.invokevirtual 184, 3) := by decide +kernel
theorem dX10_probed_19 : decode cX10_probed 19 = .ok (.ireturn, 1) := by decide +kernel
theorem dX10_table_0 : decode cX10_table 0 = .ok (.aload_n 0, 1) := by decide +kernel
theorem dX10_table_1 : decode cX10_table 1 = .ok (.iload_n 2, 1) := by decide +kernel
theorem dX10_table_2 : decode cX10_table 2 = .ok (.invokevirtual 110, 3) := by decide +kernel
theorem dX10_table_5 : decode cX10_table 5 = .ok (.astore 4, 2) := by decide +kernel
theorem dX10_table_7 : decode cX10_table 7 = .ok (.iload_n 1, 1) := by decide +kernel
theorem dX10_table_8 : decode cX10_table 8 = .ok (.ifCond .lt 32, 3) := by decide +kernel
theorem dX10_table_11 : decode cX10_table 11 = .ok (.iload_n 1, 1) := by decide +kernel
theorem dX10_table_12 : decode cX10_table 12 = .ok (.iconst 4, 1) := by decide +kernel
theorem dX10_table_13 : decode cX10_table 13 = .ok (.if_icmp .ge 27, 3) := by decide +kernel
theorem dX10_table_16 : decode cX10_table 16 = .ok (.aload 4, 2) := by decide +kernel
theorem dX10_table_18 : decode cX10_table 18 = .ok (.ifnull 22, 3) := by decide +kernel
theorem dX10_table_21 : decode cX10_table 21 = .ok (.iload_n 3, 1) := by decide +kernel
theorem dX10_table_22 : decode cX10_table 22 = .ok (.bipush 16, 2) := by decide +kernel
theorem dX10_table_24 : decode cX10_table 24 = .ok (.if_icmp .eq 19, 3) := by decide +kernel
theorem dX10_table_27 : decode cX10_table 27 = .ok (.iload_n 3, 1) := by decide +kernel
theorem dX10_table_28 : decode cX10_table 28 = .ok (.bipush 64, 2) := by decide +kernel
theorem dX10_table_30 : decode cX10_table 30 = .ok (.if_icmp .eq 13, 3) := by decide +kernel
theorem dX10_table_33 : decode cX10_table 33 = .ok (.iload_n 3, 1) := by decide +kernel
theorem dX10_table_34 : decode cX10_table 34 = .ok (.sipush 256, 3) := by decide +kernel
theorem dX10_table_37 : decode cX10_table 37 = .ok (.if_icmp .eq 6, 3) := by decide +kernel
theorem dX10_table_40 : decode cX10_table 40 = .ok (.bipush (-2), 2) := by decide +kernel
theorem dX10_table_42 : decode cX10_table 42 = .ok (.ireturn, 1) := by decide +kernel
theorem dX10_table_43 : decode cX10_table 43 = .ok (.aload_n 0, 1) := by decide +kernel
theorem dX10_table_44 : decode cX10_table 44 = .ok (.getfield 29, 3) := by decide +kernel
theorem dX10_table_47 : decode cX10_table 47 = .ok (.iload_n 1, 1) := by decide +kernel
theorem dX10_table_48 : decode cX10_table 48 = .ok (.aaload, 1) := by decide +kernel
theorem dX10_table_49 : decode cX10_table 49 = .ok (.ifnonnull 16, 3) := by decide +kernel
theorem dX10_table_52 : decode cX10_table 52 = .ok (.aload_n 0, 1) := by decide +kernel
theorem dX10_table_53 : decode cX10_table 53 = .ok (.getfield 29, 3) := by decide +kernel
theorem dX10_table_56 : decode cX10_table 56 = .ok (.iload_n 1, 1) := by decide +kernel
theorem dX10_table_57 : decode cX10_table 57 = .ok (.new 27, 3) := by decide +kernel
theorem dX10_table_60 : decode cX10_table 60 = .ok (.dup, 1) := by decide +kernel
theorem dX10_table_61 : decode cX10_table 61 = .ok (.invokespecial 186, 3) := by decide +kernel
theorem dX10_table_64 : decode cX10_table 64 = .ok (.aastore, 1) := by decide +kernel
theorem dX10_table_65 : decode cX10_table 65 = .ok (.aload_n 0, 1) := by decide +kernel
theorem dX10_table_66 : decode cX10_table 66 = .ok (.getfield 29, 3) := by decide +kernel
theorem dX10_table_69 : decode cX10_table 69 = .ok (.iload_n 1, 1) := by decide +kernel
theorem dX10_table_70 : decode cX10_table 70 = .ok (.aaload, 1) := by decide +kernel
theorem dX10_table_71 : decode cX10_table 71 = .ok (.aload 4, 2) := by decide +kernel
theorem dX10_table_73 : decode cX10_table 73 = .ok (.iload_n 3, 1) := by decide +kernel
theorem dX10_table_74 : decode cX10_table 74 = .ok (.invokevirtual 187, 3) := by decide +kernel
theorem dX10_table_77 : decode cX10_table 77 = .ok (.ireturn, 1) := by decide +kernel
theorem dX10_entry_0 : decode cX10_entry 0 = .ok (.aload_n 0, 1) := by decide +kernel
theorem dX10_entry_1 : decode cX10_entry 1 = .ok (.iload_n 1, 1) := by decide +kernel
theorem dX10_entry_2 : decode cX10_entry 2 = .ok (.invokevirtual 190, 3) := by decide +kernel
theorem dX10_entry_5 : decode cX10_entry 5 = .ok (.astore_n 3, 1) := by decide +kernel
theorem dX10_entry_6 : decode cX10_entry 6 = .ok (.aload_n 3, 1) := by decide +kernel
theorem dX10_entry_7 : decode cX10_entry 7 = .ok (.ifnull 11, 3) := by decide +kernel
theorem dX10_entry_10 : decode cX10_entry 10 = .ok (.aload_n 3, 1) := by decide +kernel
theorem dX10_entry_11 : decode cX10_entry 11 = .ok (.iload_n 2, 1) := by decide +kernel
theorem dX10_entry_12 : decode cX10_entry 12 = .ok (.invokevirtual 194, 3) := by decide +kernel
theorem dX10_entry_15 : decode cX10_entry 15 = .ok (.ifCond .ne 9, 3) := by decide +kernel
theorem dX10_entry_18 : decode cX10_entry 18 = .ok (.ldc2_w 195, 3) := by decide +kernel
theorem dX10_entry_21 : decode cX10_entry 21 = .ok (.goto 10, 3) := by decide +kernel
theorem dX10_entry_24 : decode cX10_entry 24 = .ok (.aload_n 3, 1) := by decide +kernel
theorem dX10_entry_25 : decode cX10_entry 25 = .ok (.getfield 197, 3) := by decide +kernel
theorem dX10_entry_28 : decode cX10_entry 28 = .ok (.iload_n 2, 1) := by decide +kernel
theorem dX10_entry_29 : decode cX10_entry 29 = .ok (.faload, 1) := by decide +kernel
theorem dX10_entry_30 : decode cX10_entry 30 = .ok (.f2d, 1) := by decide +kernel
theorem dX10_entry_31 : decode cX10_entry 31 = .ok (.dreturn, 1) := by decide +kernel
theorem dX10_lookup_0 : decode cX10_lookup 0 = .ok (.aload_n 0, 1) := by decide +kernel
theorem dX10_lookup_1 : decode cX10_lookup 1 = .ok (.iload_n 1, 1) := by decide +kernel
theorem dX10_lookup_2 : decode cX10_lookup 2 = .ok (.invokevirtual 190, 3) := by decide +kernel
theorem dX10_lookup_5 : decode cX10_lookup 5 = .ok (.astore_n 3, 1) := by decide +kernel
theorem dX10_lookup_6 : decode cX10_lookup 6 = .ok (.aload_n 3, 1) := by decide +kernel
theorem dX10_lookup_7 : decode cX10_lookup 7 = .ok (.ifnull 10, 3) := by decide +kernel
theorem dX10_lookup_10 : decode cX10_lookup 10 = .ok (.iload_n 2, 1) := by decide +kernel
theorem dX10_lookup_11 : decode cX10_lookup 11 = .ok (.invokestatic 57, 3) := by decide +kernel
theorem dX10_lookup_14 : decode cX10_lookup 14 = .ok (.ifCond .ne 9, 3) := by decide +kernel
theorem dX10_lookup_17 : decode cX10_lookup 17 = .ok (.ldc2_w 195, 3) := by decide +kernel
theorem dX10_lookup_20 : decode cX10_lookup 20 = .ok (.goto 9, 3) := by decide +kernel
theorem dX10_lookup_23 : decode cX10_lookup 23 = .ok (.aload_n 3, 1) := by decide +kernel
theorem dX10_lookup_24 : decode cX10_lookup 24 = .ok (.iload_n 2, 1) := by decide +kernel
theorem dX10_lookup_25 : decode cX10_lookup 25 = .ok (.invokevirtual 201, 3) := by decide +kernel
theorem dX10_lookup_28 : decode cX10_lookup 28 = .ok (.f2d, 1) := by decide +kernel
theorem dX10_lookup_29 : decode cX10_lookup 29 = .ok (.dreturn, 1) := by decide +kernel
theorem dX10_off_0 : decode cX10_off 0 = .ok (.aload_n 0, 1) := by decide +kernel
theorem dX10_off_1 : decode cX10_off 1 = .ok (.iload_n 1, 1) := by decide +kernel
theorem dX10_off_2 : decode cX10_off 2 = .ok (.invokevirtual 190, 3) := by decide +kernel
theorem dX10_off_5 : decode cX10_off 5 = .ok (.astore_n 2, 1) := by decide +kernel
theorem dX10_off_6 : decode cX10_off 6 = .ok (.aload_n 2, 1) := by decide +kernel
theorem dX10_off_7 : decode cX10_off 7 = .ok (.ifnonnull 7, 3) := by decide +kernel
theorem dX10_off_10 : decode cX10_off 10 = .ok (.ldc2_w 195, 3) := by decide +kernel
theorem dX10_off_13 : decode cX10_off 13 = .ok (.dreturn, 1) := by decide +kernel
theorem dX10_off_14 : decode cX10_off 14 = .ok (.aload_n 2, 1) := by decide +kernel
theorem dX10_off_15 : decode cX10_off 15 = .ok (.invokevirtual 205, 3) := by decide +kernel
theorem dX10_off_18 : decode cX10_off 18 = .ok (.aload_n 2, 1) := by decide +kernel
theorem dX10_off_19 : decode cX10_off 19 = .ok (.getfield 208, 3) := by decide +kernel
theorem dX10_off_22 : decode cX10_off 22 = .ok (.dreturn, 1) := by decide +kernel
theorem dX10_offAt_0 : decode cX10_offAt 0 = .ok (.aload_n 0, 1) := by decide +kernel
theorem dX10_offAt_1 : decode cX10_offAt 1 = .ok (.iload_n 1, 1) := by decide +kernel
theorem dX10_offAt_2 : decode cX10_offAt 2 = .ok (.invokevirtual 190, 3) := by decide +kernel
theorem dX10_offAt_5 : decode cX10_offAt 5 = .ok (.astore_n 2, 1) := by decide +kernel
theorem dX10_offAt_6 : decode cX10_offAt 6 = .ok (.aload_n 2, 1) := by decide +kernel
theorem dX10_offAt_7 : decode cX10_offAt 7 = .ok (.ifnonnull 6, 3) := by decide +kernel
theorem dX10_offAt_10 : decode cX10_offAt 10 = .ok (.bipush (-2), 2) := by decide +kernel
theorem dX10_offAt_12 : decode cX10_offAt 12 = .ok (.ireturn, 1) := by decide +kernel
theorem dX10_offAt_13 : decode cX10_offAt 13 = .ok (.aload_n 2, 1) := by decide +kernel
theorem dX10_offAt_14 : decode cX10_offAt 14 = .ok (.invokevirtual 205, 3) := by decide +kernel
theorem dX10_offAt_17 : decode cX10_offAt 17 = .ok (.aload_n 2, 1) := by decide +kernel
theorem dX10_offAt_18 : decode cX10_offAt 18 = .ok (.getfield 212, 3) := by decide +kernel
theorem dX10_offAt_21 : decode cX10_offAt 21 = .ok (.ireturn, 1) := by decide +kernel
theorem dX10_bank_0 : decode cX10_bank 0 = .ok (.iload_n 1, 1) := by decide +kernel
theorem dX10_bank_1 : decode cX10_bank 1 = .ok (.invokestatic 215, 3) := by decide +kernel
theorem dX10_bank_4 : decode cX10_bank 4 = .ok (.ifCond .eq 9, 3) := by decide +kernel
theorem dX10_bank_7 : decode cX10_bank 7 = .ok (.iload_n 2, 1) := by decide +kernel
theorem dX10_bank_8 : decode cX10_bank 8 = .ok (.bipush 64, 2) := by decide +kernel
theorem dX10_bank_10 : decode cX10_bank 10 = .ok (.if_icmp .le 7, 3) := by decide +kernel
theorem dX10_bank_13 : decode cX10_bank 13 = .ok (.ldc2_w 164, 3) := by decide +kernel
theorem dX10_bank_16 : decode cX10_bank 16 = .ok (.lreturn, 1) := by decide +kernel
theorem dX10_bank_17 : decode cX10_bank 17 = .ok (.iload_n 2, 1) := by decide +kernel
theorem dX10_bank_18 : decode cX10_bank 18 = .ok (.ifCond .ge 7, 3) := by decide +kernel
theorem dX10_bank_21 : decode cX10_bank 21 = .ok (.ldc2_w 218, 3) := by decide +kernel
theorem dX10_bank_24 : decode cX10_bank 24 = .ok (.lreturn, 1) := by decide +kernel
theorem dX10_bank_25 : decode cX10_bank 25 = .ok (.aload_n 0, 1) := by decide +kernel
theorem dX10_bank_26 : decode cX10_bank 26 = .ok (.getfield 36, 3) := by decide +kernel
theorem dX10_bank_29 : decode cX10_bank 29 = .ok (.iload_n 1, 1) := by decide +kernel
theorem dX10_bank_30 : decode cX10_bank 30 = .ok (.iload_n 2, 1) := by decide +kernel
theorem dX10_bank_31 : decode cX10_bank 31 = .ok (.invokevirtual 220, 3) := by decide +kernel
theorem dX10_bank_34 : decode cX10_bank 34 = .ok (.iload_n 2, 1) := by decide +kernel
theorem dX10_bank_35 : decode cX10_bank 35 = .ok (.i2l, 1) := by decide +kernel
theorem dX10_bank_36 : decode cX10_bank 36 = .ok (.lreturn, 1) := by decide +kernel
theorem dX10_free_0 : decode cX10_free 0 = .ok (.iload_n 1, 1) := by decide +kernel
theorem dX10_free_1 : decode cX10_free 1 = .ok (.invokestatic 215, 3) := by decide +kernel
theorem dX10_free_4 : decode cX10_free 4 = .ok (.ifCond .ne 6, 3) := by decide +kernel
theorem dX10_free_7 : decode cX10_free 7 = .ok (.bipush (-2), 2) := by decide +kernel
theorem dX10_free_9 : decode cX10_free 9 = .ok (.ireturn, 1) := by decide +kernel
theorem dX10_free_10 : decode cX10_free 10 = .ok (.aload_n 0, 1) := by decide +kernel
theorem dX10_free_11 : decode cX10_free 11 = .ok (.getfield 36, 3) := by decide +kernel
theorem dX10_free_14 : decode cX10_free 14 = .ok (.iload_n 1, 1) := by decide +kernel
theorem dX10_free_15 : decode cX10_free 15 = .ok (.invokevirtual 223, 3) := by decide +kernel
theorem dX10_free_18 : decode cX10_free 18 = .ok (.ifCond .eq 7, 3) := by decide +kernel
theorem dX10_free_21 : decode cX10_free 21 = .ok (.iconst 1, 1) := by decide +kernel
theorem dX10_free_22 : decode cX10_free 22 = .ok (.goto 4, 3) := by decide +kernel
theorem dX10_free_25 : decode cX10_free 25 = .ok (.iconst 0, 1) := by decide +kernel
theorem dX10_free_26 : decode cX10_free 26 = .ok (.ireturn, 1) := by decide +kernel
theorem dX10_hold_0 : decode cX10_hold 0 = .ok (.aload_n 0, 1) := by decide +kernel
theorem dX10_hold_1 : decode cX10_hold 1 = .ok (.iload_n 1, 1) := by decide +kernel
theorem dX10_hold_2 : decode cX10_hold 2 = .ok (.iload_n 2, 1) := by decide +kernel
theorem dX10_hold_3 : decode cX10_hold 3 = .ok (.invokevirtual 226, 3) := by decide +kernel
theorem dX10_hold_6 : decode cX10_hold 6 = .ok (.lstore 5, 2) := by decide +kernel
theorem dX10_hold_8 : decode cX10_hold 8 = .ok (.lload 5, 2) := by decide +kernel
theorem dX10_hold_10 : decode cX10_hold 10 = .ok (.lconst 0, 1) := by decide +kernel
theorem dX10_hold_11 : decode cX10_hold 11 = .ok (.lcmp, 1) := by decide +kernel
theorem dX10_hold_12 : decode cX10_hold 12 = .ok (.ifCond .eq 6, 3) := by decide +kernel
theorem dX10_hold_15 : decode cX10_hold 15 = .ok (.lload 5, 2) := by decide +kernel
theorem dX10_hold_17 : decode cX10_hold 17 = .ok (.lreturn, 1) := by decide +kernel
theorem dX10_hold_18 : decode cX10_hold 18 = .ok (.aload_n 0, 1) := by decide +kernel
theorem dX10_hold_19 : decode cX10_hold 19 = .ok (.getfield 36, 3) := by decide +kernel
theorem dX10_hold_22 : decode cX10_hold 22 = .ok (.iload_n 1, 1) := by decide +kernel
theorem dX10_hold_23 : decode cX10_hold 23 = .ok (.iload_n 2, 1) := by decide +kernel
theorem dX10_hold_24 : decode cX10_hold 24 = .ok (.lload_n 3, 1) := by decide +kernel
theorem dX10_hold_25 : decode cX10_hold 25 = .ok (.invokevirtual 230, 3) := by decide +kernel
theorem dX10_hold_28 : decode cX10_hold 28 = .ok (.aload_n 0, 1) := by decide +kernel
theorem dX10_hold_29 : decode cX10_hold 29 = .ok (.getfield 36, 3) := by decide +kernel
theorem dX10_hold_32 : decode cX10_hold 32 = .ok (.iload_n 1, 1) := by decide +kernel
theorem dX10_hold_33 : decode cX10_hold 33 = .ok (.iload_n 2, 1) := by decide +kernel
theorem dX10_hold_34 : decode cX10_hold 34 = .ok (.invokevirtual 234, 3) := by decide +kernel
theorem dX10_hold_37 : decode cX10_hold 37 = .ok (.lreturn, 1) := by decide +kernel
theorem dX10_held_0 : decode cX10_held 0 = .ok (.aload_n 0, 1) := by decide +kernel
theorem dX10_held_1 : decode cX10_held 1 = .ok (.iload_n 1, 1) := by decide +kernel
theorem dX10_held_2 : decode cX10_held 2 = .ok (.iload_n 2, 1) := by decide +kernel
theorem dX10_held_3 : decode cX10_held 3 = .ok (.invokevirtual 226, 3) := by decide +kernel
theorem dX10_held_6 : decode cX10_held 6 = .ok (.lstore_n 3, 1) := by decide +kernel
theorem dX10_held_7 : decode cX10_held 7 = .ok (.lload_n 3, 1) := by decide +kernel
theorem dX10_held_8 : decode cX10_held 8 = .ok (.lconst 0, 1) := by decide +kernel
theorem dX10_held_9 : decode cX10_held 9 = .ok (.lcmp, 1) := by decide +kernel
theorem dX10_held_10 : decode cX10_held 10 = .ok (.ifCond .eq 7, 3) := by decide +kernel
theorem dX10_held_13 : decode cX10_held 13 = .ok (.lload_n 3, 1) := by decide +kernel
theorem dX10_held_14 : decode cX10_held 14 = .ok (.goto 12, 3) := by decide +kernel
theorem dX10_held_17 : decode cX10_held 17 = .ok (.aload_n 0, 1) := by decide +kernel
theorem dX10_held_18 : decode cX10_held 18 = .ok (.getfield 36, 3) := by decide +kernel
theorem dX10_held_21 : decode cX10_held 21 = .ok (.iload_n 1, 1) := by decide +kernel
theorem dX10_held_22 : decode cX10_held 22 = .ok (.iload_n 2, 1) := by decide +kernel
theorem dX10_held_23 : decode cX10_held 23 = .ok (.invokevirtual 234, 3) := by decide +kernel
theorem dX10_held_26 : decode cX10_held 26 = .ok (.lreturn, 1) := by decide +kernel
theorem dX10_count_0 : decode cX10_count 0 = .ok (.iload_n 1, 1) := by decide +kernel
theorem dX10_count_1 : decode cX10_count 1 = .ok (.tableswitch 66 0 4 #[35, 40, 48, 53, 58], 35) := by decide +kernel
theorem dX10_count_36 : decode cX10_count 36 = .ok (.aload_n 0, 1) := by decide +kernel
theorem dX10_count_37 : decode cX10_count 37 = .ok (.getfield 47, 3) := by decide +kernel
theorem dX10_count_40 : decode cX10_count 40 = .ok (.ireturn, 1) := by decide +kernel
theorem dX10_count_41 : decode cX10_count 41 = .ok (.aload_n 0, 1) := by decide +kernel
theorem dX10_count_42 : decode cX10_count 42 = .ok (.getfield 43, 3) := by decide +kernel
theorem dX10_count_45 : decode cX10_count 45 = .ok (.getfield 98, 3) := by decide +kernel
theorem dX10_count_48 : decode cX10_count 48 = .ok (.ireturn, 1) := by decide +kernel
theorem dX10_count_49 : decode cX10_count 49 = .ok (.aload_n 0, 1) := by decide +kernel
theorem dX10_count_50 : decode cX10_count 50 = .ok (.invokevirtual 237, 3) := by decide +kernel
theorem dX10_count_53 : decode cX10_count 53 = .ok (.ireturn, 1) := by decide +kernel
theorem dX10_count_54 : decode cX10_count 54 = .ok (.aload_n 0, 1) := by decide +kernel
theorem dX10_count_55 : decode cX10_count 55 = .ok (.invokevirtual 240, 3) := by decide +kernel
theorem dX10_count_58 : decode cX10_count 58 = .ok (.ireturn, 1) := by decide +kernel
theorem dX10_count_59 : decode cX10_count 59 = .ok (.aload_n 0, 1) := by decide +kernel
theorem dX10_count_60 : decode cX10_count 60 = .ok (.getfield 36, 3) := by decide +kernel
theorem dX10_count_63 : decode cX10_count 63 = .ok (.invokevirtual 243, 3) := by decide +kernel
theorem dX10_count_66 : decode cX10_count 66 = .ok (.ireturn, 1) := by decide +kernel
theorem dX10_count_67 : decode cX10_count 67 = .ok (.bipush (-2), 2) := by decide +kernel
theorem dX10_count_69 : decode cX10_count 69 = .ok (.ireturn, 1) := by decide +kernel
theorem dX10_sensorNumbered_0 : decode cX10_sensorNumbered 0 = .ok (.iload_n 1, 1) := by decide +kernel
theorem dX10_sensorNumbered_1 : decode cX10_sensorNumbered 1 = .ok (.ifCond .lt 9, 3) := by decide +kernel
theorem dX10_sensorNumbered_4 : decode cX10_sensorNumbered 4 = .ok (.iload_n 1, 1) := by decide +kernel
theorem dX10_sensorNumbered_5 : decode cX10_sensorNumbered 5 = .ok (.bipush 8, 2) := by decide +kernel
theorem dX10_sensorNumbered_7 : decode cX10_sensorNumbered 7 = .ok (.if_icmp .lt 7, 3) := by decide +kernel
theorem dX10_sensorNumbered_10 : decode cX10_sensorNumbered 10 = .ok (.aconst_null, 1) := by decide +kernel
theorem dX10_sensorNumbered_11 : decode cX10_sensorNumbered 11 = .ok (.goto 9, 3) := by decide +kernel
theorem dX10_sensorNumbered_14 : decode cX10_sensorNumbered 14 = .ok (.aload_n 0, 1) := by decide +kernel
theorem dX10_sensorNumbered_15 : decode cX10_sensorNumbered 15 = .ok (.getfield 11, 3) := by decide +kernel
theorem dX10_sensorNumbered_18 : decode cX10_sensorNumbered 18 = .ok (.iload_n 1, 1) := by decide +kernel
theorem dX10_sensorNumbered_19 : decode cX10_sensorNumbered 19 = .ok (.aaload, 1) := by decide +kernel
theorem dX10_sensorNumbered_20 : decode cX10_sensorNumbered 20 = .ok (.areturn, 1) := by decide +kernel
theorem dX10_curveNumbered_0 : decode cX10_curveNumbered 0 = .ok (.iload_n 1, 1) := by decide +kernel
theorem dX10_curveNumbered_1 : decode cX10_curveNumbered 1 = .ok (.ifCond .lt 11, 3) := by decide +kernel
theorem dX10_curveNumbered_4 : decode cX10_curveNumbered 4 = .ok (.iload_n 1, 1) := by decide +kernel
theorem dX10_curveNumbered_5 : decode cX10_curveNumbered 5 = .ok (.aload_n 0, 1) := by decide +kernel
theorem dX10_curveNumbered_6 : decode cX10_curveNumbered 6 = .ok (.getfield 47, 3) := by decide +kernel
theorem dX10_curveNumbered_9 : decode cX10_curveNumbered 9 = .ok (.if_icmp .lt 7, 3) := by decide +kernel
theorem dX10_curveNumbered_12 : decode cX10_curveNumbered 12 = .ok (.aconst_null, 1) := by decide +kernel
theorem dX10_curveNumbered_13 : decode cX10_curveNumbered 13 = .ok (.goto 9, 3) := by decide +kernel
theorem dX10_curveNumbered_16 : decode cX10_curveNumbered 16 = .ok (.aload_n 0, 1) := by decide +kernel
theorem dX10_curveNumbered_17 : decode cX10_curveNumbered 17 = .ok (.getfield 17, 3) := by decide +kernel
theorem dX10_curveNumbered_20 : decode cX10_curveNumbered 20 = .ok (.iload_n 1, 1) := by decide +kernel
theorem dX10_curveNumbered_21 : decode cX10_curveNumbered 21 = .ok (.aaload, 1) := by decide +kernel
theorem dX10_curveNumbered_22 : decode cX10_curveNumbered 22 = .ok (.areturn, 1) := by decide +kernel
theorem dX10_probeNumbered_0 : decode cX10_probeNumbered 0 = .ok (.iload_n 1, 1) := by decide +kernel
theorem dX10_probeNumbered_1 : decode cX10_probeNumbered 1 = .ok (.ifCond .lt 8, 3) := by decide +kernel
theorem dX10_probeNumbered_4 : decode cX10_probeNumbered 4 = .ok (.iload_n 1, 1) := by decide +kernel
theorem dX10_probeNumbered_5 : decode cX10_probeNumbered 5 = .ok (.iconst 4, 1) := by decide +kernel
theorem dX10_probeNumbered_6 : decode cX10_probeNumbered 6 = .ok (.if_icmp .lt 7, 3) := by decide +kernel
theorem dX10_probeNumbered_9 : decode cX10_probeNumbered 9 = .ok (.aconst_null, 1) := by decide +kernel
theorem dX10_probeNumbered_10 : decode cX10_probeNumbered 10 = .ok (.goto 9, 3) := by decide +kernel
theorem dX10_probeNumbered_13 : decode cX10_probeNumbered 13 = .ok (.aload_n 0, 1) := by decide +kernel
theorem dX10_probeNumbered_14 : decode cX10_probeNumbered 14 = .ok (.getfield 23, 3) := by decide +kernel
theorem dX10_probeNumbered_17 : decode cX10_probeNumbered 17 = .ok (.iload_n 1, 1) := by decide +kernel
theorem dX10_probeNumbered_18 : decode cX10_probeNumbered 18 = .ok (.aaload, 1) := by decide +kernel
theorem dX10_probeNumbered_19 : decode cX10_probeNumbered 19 = .ok (.areturn, 1) := by decide +kernel
theorem dX10_tableNumbered_0 : decode cX10_tableNumbered 0 = .ok (.iload_n 1, 1) := by decide +kernel
theorem dX10_tableNumbered_1 : decode cX10_tableNumbered 1 = .ok (.ifCond .lt 8, 3) := by decide +kernel
theorem dX10_tableNumbered_4 : decode cX10_tableNumbered 4 = .ok (.iload_n 1, 1) := by decide +kernel
theorem dX10_tableNumbered_5 : decode cX10_tableNumbered 5 = .ok (.iconst 4, 1) := by decide +kernel
theorem dX10_tableNumbered_6 : decode cX10_tableNumbered 6 = .ok (.if_icmp .lt 7, 3) := by decide +kernel
theorem dX10_tableNumbered_9 : decode cX10_tableNumbered 9 = .ok (.aconst_null, 1) := by decide +kernel
theorem dX10_tableNumbered_10 : decode cX10_tableNumbered 10 = .ok (.goto 9, 3) := by decide +kernel
theorem dX10_tableNumbered_13 : decode cX10_tableNumbered 13 = .ok (.aload_n 0, 1) := by decide +kernel
theorem dX10_tableNumbered_14 : decode cX10_tableNumbered 14 = .ok (.getfield 29, 3) := by decide +kernel
theorem dX10_tableNumbered_17 : decode cX10_tableNumbered 17 = .ok (.iload_n 1, 1) := by decide +kernel
theorem dX10_tableNumbered_18 : decode cX10_tableNumbered 18 = .ok (.aaload, 1) := by decide +kernel
theorem dX10_tableNumbered_19 : decode cX10_tableNumbered 19 = .ok (.areturn, 1) := by decide +kernel
theorem dX10_isBank_0 : decode cX10_isBank 0 = .ok (.iload_n 0, 1) := by decide +kernel
theorem dX10_isBank_1 : decode cX10_isBank 1 = .ok (.ifCond .lt 13, 3) := by decide +kernel
theorem dX10_isBank_4 : decode cX10_isBank 4 = .ok (.iload_n 0, 1) := by decide +kernel
theorem dX10_isBank_5 : decode cX10_isBank 5 = .ok (.bipush 8, 2) := by decide +kernel
theorem dX10_isBank_7 : decode cX10_isBank 7 = .ok (.if_icmp .ge 7, 3) := by decide +kernel
theorem dX10_isBank_10 : decode cX10_isBank 10 = .ok (.iconst 1, 1) := by decide +kernel
theorem dX10_isBank_11 : decode cX10_isBank 11 = .ok (.goto 4, 3) := by decide +kernel
theorem dX10_isBank_14 : decode cX10_isBank 14 = .ok (.iconst 0, 1) := by decide +kernel
theorem dX10_isBank_15 : decode cX10_isBank 15 = .ok (.ireturn, 1) := by decide +kernel
theorem dX10_faultOf_0 : decode cX10_faultOf 0 = .ok (.iload_n 1, 1) := by decide +kernel
theorem dX10_faultOf_1 : decode cX10_faultOf 1 = .ok (.invokestatic 215, 3) := by decide +kernel
theorem dX10_faultOf_4 : decode cX10_faultOf 4 = .ok (.ifCond .ne 7, 3) := by decide +kernel
theorem dX10_faultOf_7 : decode cX10_faultOf 7 = .ok (.ldc2_w 164, 3) := by decide +kernel
theorem dX10_faultOf_10 : decode cX10_faultOf 10 = .ok (.lreturn, 1) := by decide +kernel
theorem dX10_faultOf_11 : decode cX10_faultOf 11 = .ok (.aload_n 0, 1) := by decide +kernel
theorem dX10_faultOf_12 : decode cX10_faultOf 12 = .ok (.getfield 36, 3) := by decide +kernel
theorem dX10_faultOf_15 : decode cX10_faultOf 15 = .ok (.iload_n 1, 1) := by decide +kernel
theorem dX10_faultOf_16 : decode cX10_faultOf 16 = .ok (.invokevirtual 246, 3) := by decide +kernel
theorem dX10_faultOf_19 : decode cX10_faultOf 19 = .ok (.ifCond .ne 7, 3) := by decide +kernel
theorem dX10_faultOf_22 : decode cX10_faultOf 22 = .ok (.ldc2_w 249, 3) := by decide +kernel
theorem dX10_faultOf_25 : decode cX10_faultOf 25 = .ok (.lreturn, 1) := by decide +kernel
theorem dX10_faultOf_26 : decode cX10_faultOf 26 = .ok (.aload_n 0, 1) := by decide +kernel
theorem dX10_faultOf_27 : decode cX10_faultOf 27 = .ok (.getfield 36, 3) := by decide +kernel
theorem dX10_faultOf_30 : decode cX10_faultOf 30 = .ok (.iload_n 1, 1) := by decide +kernel
theorem dX10_faultOf_31 : decode cX10_faultOf 31 = .ok (.iload_n 2, 1) := by decide +kernel
theorem dX10_faultOf_32 : decode cX10_faultOf 32 = .ok (.invokevirtual 251, 3) := by decide +kernel
theorem dX10_faultOf_35 : decode cX10_faultOf 35 = .ok (.ifCond .eq 7, 3) := by decide +kernel
theorem dX10_faultOf_38 : decode cX10_faultOf 38 = .ok (.lconst 0, 1) := by decide +kernel
theorem dX10_faultOf_39 : decode cX10_faultOf 39 = .ok (.goto 6, 3) := by decide +kernel
theorem dX10_faultOf_42 : decode cX10_faultOf 42 = .ok (.ldc2_w 253, 3) := by decide +kernel
theorem dX10_faultOf_45 : decode cX10_faultOf 45 = .ok (.lreturn, 1) := by decide +kernel
theorem dX10_hasRoomFor_0 : decode cX10_hasRoomFor 0 = .ok (.iload_n 1, 1) := by decide +kernel
theorem dX10_hasRoomFor_1 : decode cX10_hasRoomFor 1 = .ok (.sipush 500, 3) := by decide +kernel
theorem dX10_hasRoomFor_4 : decode cX10_hasRoomFor 4 = .ok (.if_icmp .gt 16, 3) := by decide +kernel
theorem dX10_hasRoomFor_7 : decode cX10_hasRoomFor 7 = .ok (.aload_n 0, 1) := by decide +kernel
theorem dX10_hasRoomFor_8 : decode cX10_hasRoomFor 8 = .ok (.getfield 47, 3) := by decide +kernel
theorem dX10_hasRoomFor_11 : decode cX10_hasRoomFor 11 = .ok (.bipush 60, 2) := by decide +kernel
theorem dX10_hasRoomFor_13 : decode cX10_hasRoomFor 13 = .ok (.if_icmp .ge 7, 3) := by decide +kernel
theorem dX10_hasRoomFor_16 : decode cX10_hasRoomFor 16 = .ok (.iconst 1, 1) := by decide +kernel
theorem dX10_hasRoomFor_17 : decode cX10_hasRoomFor 17 = .ok (.goto 4, 3) := by decide +kernel
theorem dX10_hasRoomFor_20 : decode cX10_hasRoomFor 20 = .ok (.iconst 0, 1) := by decide +kernel
theorem dX10_hasRoomFor_21 : decode cX10_hasRoomFor 21 = .ok (.ireturn, 1) := by decide +kernel
theorem dX10_keep_0 : decode cX10_keep 0 = .ok (.aload_n 0, 1) := by decide +kernel
theorem dX10_keep_1 : decode cX10_keep 1 = .ok (.getfield 47, 3) := by decide +kernel
theorem dX10_keep_4 : decode cX10_keep 4 = .ok (.bipush 60, 2) := by decide +kernel
theorem dX10_keep_6 : decode cX10_keep 6 = .ok (.if_icmp .lt 6, 3) := by decide +kernel
theorem dX10_keep_9 : decode cX10_keep 9 = .ok (.bipush (-2), 2) := by decide +kernel
