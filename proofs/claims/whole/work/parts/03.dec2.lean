theorem dX10_keep_11 : decode cX10_keep 11 = .ok (.ireturn, 1) := by decide +kernel
theorem dX10_keep_12 : decode cX10_keep 12 = .ok (.aload_n 0, 1) := by decide +kernel
theorem dX10_keep_13 : decode cX10_keep 13 = .ok (.getfield 17, 3) := by decide +kernel
theorem dX10_keep_16 : decode cX10_keep 16 = .ok (.aload_n 0, 1) := by decide +kernel
theorem dX10_keep_17 : decode cX10_keep 17 = .ok (.getfield 47, 3) := by decide +kernel
theorem dX10_keep_20 : decode cX10_keep 20 = .ok (.aload_n 1, 1) := by decide +kernel
theorem dX10_keep_21 : decode cX10_keep 21 = .ok (.aastore, 1) := by decide +kernel
theorem dX10_keep_22 : decode cX10_keep 22 = .ok (.aload_n 0, 1) := by decide +kernel
theorem dX10_keep_23 : decode cX10_keep 23 = .ok (.dup, 1) := by decide +kernel
theorem dX10_keep_24 : decode cX10_keep 24 = .ok (.getfield 47, 3) := by decide +kernel
theorem dX10_keep_27 : decode cX10_keep 27 = .ok (.iconst 1, 1) := by decide +kernel
theorem dX10_keep_28 : decode cX10_keep 28 = .ok (.iadd, 1) := by decide +kernel
theorem dX10_keep_29 : decode cX10_keep 29 = .ok (.putfield 47, 3) := by decide +kernel
theorem dX10_keep_32 : decode cX10_keep 32 = .ok (.aload_n 0, 1) := by decide +kernel
theorem dX10_keep_33 : decode cX10_keep 33 = .ok (.getfield 47, 3) := by decide +kernel
theorem dX10_keep_36 : decode cX10_keep 36 = .ok (.iconst 1, 1) := by decide +kernel
theorem dX10_keep_37 : decode cX10_keep 37 = .ok (.isub, 1) := by decide +kernel
theorem dX10_keep_38 : decode cX10_keep 38 = .ok (.ireturn, 1) := by decide +kernel
theorem dX10_sensorsWithReadings_0 : decode cX10_sensorsWithReadings 0 = .ok (.iconst 0, 1) := by decide +kernel
theorem dX10_sensorsWithReadings_1 : decode cX10_sensorsWithReadings 1 = .ok (.istore_n 1, 1) := by decide +kernel
theorem dX10_sensorsWithReadings_2 : decode cX10_sensorsWithReadings 2 = .ok (.iconst 0, 1) := by decide +kernel
theorem dX10_sensorsWithReadings_3 : decode cX10_sensorsWithReadings 3 = .ok (.istore_n 2, 1) := by decide +kernel
theorem dX10_sensorsWithReadings_4 : decode cX10_sensorsWithReadings 4 = .ok (.iload_n 2, 1) := by decide +kernel
theorem dX10_sensorsWithReadings_5 : decode cX10_sensorsWithReadings 5 = .ok (.bipush 8, 2) := by decide +kernel
theorem dX10_sensorsWithReadings_7 : decode cX10_sensorsWithReadings 7 = .ok (.if_icmp .ge 24, 3) := by decide +kernel
theorem dX10_sensorsWithReadings_10 : decode cX10_sensorsWithReadings 10 = .ok (.aload_n 0, 1) := by decide +kernel
theorem dX10_sensorsWithReadings_11 : decode cX10_sensorsWithReadings 11 = .ok (.getfield 11, 3) := by decide +kernel
theorem dX10_sensorsWithReadings_14 : decode cX10_sensorsWithReadings 14 = .ok (.iload_n 2, 1) := by decide +kernel
theorem dX10_sensorsWithReadings_15 : decode cX10_sensorsWithReadings 15 = .ok (.aaload, 1) := by decide +kernel
theorem dX10_sensorsWithReadings_16 : decode cX10_sensorsWithReadings 16 = .ok (.getfield 65, 3) := by decide +kernel
theorem dX10_sensorsWithReadings_19 : decode cX10_sensorsWithReadings 19 = .ok (.ifCond .le 6, 3) := by decide +kernel
theorem dX10_sensorsWithReadings_22 : decode cX10_sensorsWithReadings 22 = .ok (.iinc 1 1, 3) := by decide +kernel
theorem dX10_sensorsWithReadings_25 : decode cX10_sensorsWithReadings 25 = .ok (.iinc 2 1, 3) := by decide +kernel
theorem dX10_sensorsWithReadings_28 : decode cX10_sensorsWithReadings 28 = .ok (.goto (-24), 3) := by decide +kernel
theorem dX10_sensorsWithReadings_31 : decode cX10_sensorsWithReadings 31 = .ok (.iload_n 1, 1) := by decide +kernel
theorem dX10_sensorsWithReadings_32 : decode cX10_sensorsWithReadings 32 = .ok (.ireturn, 1) := by decide +kernel
theorem dX10_tablesMade_0 : decode cX10_tablesMade 0 = .ok (.iconst 0, 1) := by decide +kernel
theorem dX10_tablesMade_1 : decode cX10_tablesMade 1 = .ok (.istore_n 1, 1) := by decide +kernel
theorem dX10_tablesMade_2 : decode cX10_tablesMade 2 = .ok (.iconst 0, 1) := by decide +kernel
theorem dX10_tablesMade_3 : decode cX10_tablesMade 3 = .ok (.istore_n 2, 1) := by decide +kernel
theorem dX10_tablesMade_4 : decode cX10_tablesMade 4 = .ok (.iload_n 2, 1) := by decide +kernel
theorem dX10_tablesMade_5 : decode cX10_tablesMade 5 = .ok (.iconst 4, 1) := by decide +kernel
theorem dX10_tablesMade_6 : decode cX10_tablesMade 6 = .ok (.if_icmp .ge 21, 3) := by decide +kernel
theorem dX10_tablesMade_9 : decode cX10_tablesMade 9 = .ok (.aload_n 0, 1) := by decide +kernel
theorem dX10_tablesMade_10 : decode cX10_tablesMade 10 = .ok (.getfield 29, 3) := by decide +kernel
theorem dX10_tablesMade_13 : decode cX10_tablesMade 13 = .ok (.iload_n 2, 1) := by decide +kernel
theorem dX10_tablesMade_14 : decode cX10_tablesMade 14 = .ok (.aaload, 1) := by decide +kernel
theorem dX10_tablesMade_15 : decode cX10_tablesMade 15 = .ok (.ifnull 6, 3) := by decide +kernel
theorem dX10_tablesMade_18 : decode cX10_tablesMade 18 = .ok (.iinc 1 1, 3) := by decide +kernel
theorem dX10_tablesMade_21 : decode cX10_tablesMade 21 = .ok (.iinc 2 1, 3) := by decide +kernel
theorem dX10_tablesMade_24 : decode cX10_tablesMade 24 = .ok (.goto (-20), 3) := by decide +kernel
theorem dX10_tablesMade_27 : decode cX10_tablesMade 27 = .ok (.iload_n 1, 1) := by decide +kernel
theorem dX10_tablesMade_28 : decode cX10_tablesMade 28 = .ok (.ireturn, 1) := by decide +kernel
theorem dX10_isCount_0 : decode cX10_isCount 0 = .ok (.iload_n 0, 1) := by decide +kernel
theorem dX10_isCount_1 : decode cX10_isCount 1 = .ok (.ifCond .lt 14, 3) := by decide +kernel
theorem dX10_isCount_4 : decode cX10_isCount 4 = .ok (.iload_n 0, 1) := by decide +kernel
theorem dX10_isCount_5 : decode cX10_isCount 5 = .ok (.sipush 4095, 3) := by decide +kernel
theorem dX10_isCount_8 : decode cX10_isCount 8 = .ok (.if_icmp .gt 7, 3) := by decide +kernel
theorem dX10_isCount_11 : decode cX10_isCount 11 = .ok (.iconst 1, 1) := by decide +kernel
theorem dX10_isCount_12 : decode cX10_isCount 12 = .ok (.goto 4, 3) := by decide +kernel
theorem dX10_isCount_15 : decode cX10_isCount 15 = .ok (.iconst 0, 1) := by decide +kernel
theorem dX10_isCount_16 : decode cX10_isCount 16 = .ok (.ireturn, 1) := by decide +kernel
theorem dX10_isValue_0 : decode cX10_isValue 0 = .ok (.iload_n 0, 1) := by decide +kernel
theorem dX10_isValue_1 : decode cX10_isValue 1 = .ok (.ldc 255, 2) := by decide +kernel
theorem dX10_isValue_3 : decode cX10_isValue 3 = .ok (.invokestatic 61, 3) := by decide +kernel
theorem dX10_isValue_6 : decode cX10_isValue 6 = .ok (.ireturn, 1) := by decide +kernel
theorem dX10_isWithin_0 : decode cX10_isWithin 0 = .ok (.iload_n 0, 1) := by decide +kernel
theorem dX10_isWithin_1 : decode cX10_isWithin 1 = .ok (.iload_n 1, 1) := by decide +kernel
theorem dX10_isWithin_2 : decode cX10_isWithin 2 = .ok (.ineg, 1) := by decide +kernel
theorem dX10_isWithin_3 : decode cX10_isWithin 3 = .ok (.if_icmp .lt 12, 3) := by decide +kernel
theorem dX10_isWithin_6 : decode cX10_isWithin 6 = .ok (.iload_n 0, 1) := by decide +kernel
theorem dX10_isWithin_7 : decode cX10_isWithin 7 = .ok (.iload_n 1, 1) := by decide +kernel
theorem dX10_isWithin_8 : decode cX10_isWithin 8 = .ok (.if_icmp .gt 7, 3) := by decide +kernel
theorem dX10_isWithin_11 : decode cX10_isWithin 11 = .ok (.iconst 1, 1) := by decide +kernel
theorem dX10_isWithin_12 : decode cX10_isWithin 12 = .ok (.goto 4, 3) := by decide +kernel
theorem dX10_isWithin_15 : decode cX10_isWithin 15 = .ok (.iconst 0, 1) := by decide +kernel
theorem dX10_isWithin_16 : decode cX10_isWithin 16 = .ok (.ireturn, 1) := by decide +kernel
theorem dX10_nearestCount_0 : decode cX10_nearestCount 0 = .ok (.iconst 0, 1) := by decide +kernel
theorem dX10_nearestCount_1 : decode cX10_nearestCount 1 = .ok (.sipush 4095, 3) := by decide +kernel
theorem dX10_nearestCount_4 : decode cX10_nearestCount 4 = .ok (.iload_n 0, 1) := by decide +kernel
theorem dX10_nearestCount_5 : decode cX10_nearestCount 5 = .ok (.invokestatic 256, 3) := by decide +kernel
theorem dX10_nearestCount_8 : decode cX10_nearestCount 8 = .ok (.invokestatic 262, 3) := by decide +kernel
theorem dX10_nearestCount_11 : decode cX10_nearestCount 11 = .ok (.ireturn, 1) := by decide +kernel
theorem dX10_nearestValue_0 : decode cX10_nearestValue 0 = .ok (.ldc2_w 265, 3) := by decide +kernel
theorem dX10_nearestValue_3 : decode cX10_nearestValue 3 = .ok (.ldc2_w 267, 3) := by decide +kernel
theorem dX10_nearestValue_6 : decode cX10_nearestValue 6 = .ok (.lload_n 0, 1) := by decide +kernel
theorem dX10_nearestValue_7 : decode cX10_nearestValue 7 = .ok (.invokestatic 269, 3) := by decide +kernel
theorem dX10_nearestValue_10 : decode cX10_nearestValue 10 = .ok (.invokestatic 272, 3) := by decide +kernel
theorem dX10_nearestValue_13 : decode cX10_nearestValue 13 = .ok (.l2i, 1) := by decide +kernel
theorem dX10_nearestValue_14 : decode cX10_nearestValue 14 = .ok (.ireturn, 1) := by decide +kernel
theorem dX10_rounded_0 : decode cX10_rounded 0 = .ok (.lload_n 2, 1) := by decide +kernel
theorem dX10_rounded_1 : decode cX10_rounded 1 = .ok (.lconst 0, 1) := by decide +kernel
theorem dX10_rounded_2 : decode cX10_rounded 2 = .ok (.lcmp, 1) := by decide +kernel
theorem dX10_rounded_3 : decode cX10_rounded 3 = .ok (.ifCond .gt 5, 3) := by decide +kernel
theorem dX10_rounded_6 : decode cX10_rounded 6 = .ok (.lconst 0, 1) := by decide +kernel
theorem dX10_rounded_7 : decode cX10_rounded 7 = .ok (.lreturn, 1) := by decide +kernel
theorem dX10_rounded_8 : decode cX10_rounded 8 = .ok (.lload_n 0, 1) := by decide +kernel
theorem dX10_rounded_9 : decode cX10_rounded 9 = .ok (.lload_n 2, 1) := by decide +kernel
theorem dX10_rounded_10 : decode cX10_rounded 10 = .ok (.invokestatic 274, 3) := by decide +kernel
theorem dX10_rounded_13 : decode cX10_rounded 13 = .ok (.lstore 4, 2) := by decide +kernel
theorem dX10_rounded_15 : decode cX10_rounded 15 = .ok (.ldc2_w 277, 3) := by decide +kernel
theorem dX10_rounded_18 : decode cX10_rounded 18 = .ok (.lload_n 0, 1) := by decide +kernel
theorem dX10_rounded_19 : decode cX10_rounded 19 = .ok (.lload 4, 2) := by decide +kernel
theorem dX10_rounded_21 : decode cX10_rounded 21 = .ok (.lload_n 2, 1) := by decide +kernel
theorem dX10_rounded_22 : decode cX10_rounded 22 = .ok (.lmul, 1) := by decide +kernel
theorem dX10_rounded_23 : decode cX10_rounded 23 = .ok (.lsub, 1) := by decide +kernel
theorem dX10_rounded_24 : decode cX10_rounded 24 = .ok (.lmul, 1) := by decide +kernel
theorem dX10_rounded_25 : decode cX10_rounded 25 = .ok (.lstore 6, 2) := by decide +kernel
theorem dX10_rounded_27 : decode cX10_rounded 27 = .ok (.lload 6, 2) := by decide +kernel
theorem dX10_rounded_29 : decode cX10_rounded 29 = .ok (.lload_n 2, 1) := by decide +kernel
theorem dX10_rounded_30 : decode cX10_rounded 30 = .ok (.lcmp, 1) := by decide +kernel
theorem dX10_rounded_31 : decode cX10_rounded 31 = .ok (.ifCond .gt 19, 3) := by decide +kernel
theorem dX10_rounded_34 : decode cX10_rounded 34 = .ok (.lload 6, 2) := by decide +kernel
theorem dX10_rounded_36 : decode cX10_rounded 36 = .ok (.lload_n 2, 1) := by decide +kernel
theorem dX10_rounded_37 : decode cX10_rounded 37 = .ok (.lcmp, 1) := by decide +kernel
theorem dX10_rounded_38 : decode cX10_rounded 38 = .ok (.ifCond .ne 16, 3) := by decide +kernel
theorem dX10_rounded_41 : decode cX10_rounded 41 = .ok (.lload 4, 2) := by decide +kernel
theorem dX10_rounded_43 : decode cX10_rounded 43 = .ok (.lconst 1, 1) := by decide +kernel
theorem dX10_rounded_44 : decode cX10_rounded 44 = .ok (.land, 1) := by decide +kernel
theorem dX10_rounded_45 : decode cX10_rounded 45 = .ok (.lconst 0, 1) := by decide +kernel
theorem dX10_rounded_46 : decode cX10_rounded 46 = .ok (.lcmp, 1) := by decide +kernel
theorem dX10_rounded_47 : decode cX10_rounded 47 = .ok (.ifCond .eq 7, 3) := by decide +kernel
theorem dX10_rounded_50 : decode cX10_rounded 50 = .ok (.iconst 1, 1) := by decide +kernel
theorem dX10_rounded_51 : decode cX10_rounded 51 = .ok (.goto 4, 3) := by decide +kernel
theorem dX10_rounded_54 : decode cX10_rounded 54 = .ok (.iconst 0, 1) := by decide +kernel
theorem dX10_rounded_55 : decode cX10_rounded 55 = .ok (.istore 8, 2) := by decide +kernel
theorem dX10_rounded_57 : decode cX10_rounded 57 = .ok (.iload 8, 2) := by decide +kernel
theorem dX10_rounded_59 : decode cX10_rounded 59 = .ok (.ifCond .eq 10, 3) := by decide +kernel
theorem dX10_rounded_62 : decode cX10_rounded 62 = .ok (.lload 4, 2) := by decide +kernel
theorem dX10_rounded_64 : decode cX10_rounded 64 = .ok (.lconst 1, 1) := by decide +kernel
theorem dX10_rounded_65 : decode cX10_rounded 65 = .ok (.ladd, 1) := by decide +kernel
theorem dX10_rounded_66 : decode cX10_rounded 66 = .ok (.goto 5, 3) := by decide +kernel
theorem dX10_rounded_69 : decode cX10_rounded 69 = .ok (.lload 4, 2) := by decide +kernel
theorem dX10_rounded_71 : decode cX10_rounded 71 = .ok (.lreturn, 1) := by decide +kernel
theorem dX11_init_0 : decode cX11_init 0 = .ok (.aload_n 0, 1) := by decide +kernel
theorem dX11_init_1 : decode cX11_init 1 = .ok (.invokespecial 1, 3) := by decide +kernel
theorem dX11_init_4 : decode cX11_init 4 = .ok (.aload_n 0, 1) := by decide +kernel
theorem dX11_init_5 : decode cX11_init 5 = .ok (.bipush 8, 2) := by decide +kernel
theorem dX11_init_7 : decode cX11_init 7 = .ok (.newarray .int, 2) := by decide +kernel
theorem dX11_init_9 : decode cX11_init 9 = .ok (.putfield 9, 3) := by decide +kernel
theorem dX11_init_12 : decode cX11_init 12 = .ok (.aload_n 0, 1) := by decide +kernel
theorem dX11_init_13 : decode cX11_init 13 = .ok (.sipush 192, 3) := by decide +kernel
theorem dX11_init_16 : decode cX11_init 16 = .ok (.newarray .int, 2) := by decide +kernel
theorem dX11_init_18 : decode cX11_init 18 = .ok (.putfield 13, 3) := by decide +kernel
theorem dX11_init_21 : decode cX11_init 21 = .ok (.aload_n 0, 1) := by decide +kernel
theorem dX11_init_22 : decode cX11_init 22 = .ok (.sipush 192, 3) := by decide +kernel
theorem dX11_init_25 : decode cX11_init 25 = .ok (.newarray .int, 2) := by decide +kernel
theorem dX11_init_27 : decode cX11_init 27 = .ok (.putfield 16, 3) := by decide +kernel
theorem dX11_init_30 : decode cX11_init 30 = .ok (.aload_n 0, 1) := by decide +kernel
theorem dX11_init_31 : decode cX11_init 31 = .ok (.sipush 192, 3) := by decide +kernel
theorem dX11_init_34 : decode cX11_init 34 = .ok (.newarray .int, 2) := by decide +kernel
theorem dX11_init_36 : decode cX11_init 36 = .ok (.putfield 19, 3) := by decide +kernel
theorem dX11_init_39 : decode cX11_init 39 = .ok (.aload_n 0, 1) := by decide +kernel
theorem dX11_init_40 : decode cX11_init 40 = .ok (.bipush 60, 2) := by decide +kernel
theorem dX11_init_42 : decode cX11_init 42 = .ok (.newarray .int, 2) := by decide +kernel
theorem dX11_init_44 : decode cX11_init 44 = .ok (.putfield 22, 3) := by decide +kernel
theorem dX11_init_47 : decode cX11_init 47 = .ok (.aload_n 0, 1) := by decide +kernel
theorem dX11_init_48 : decode cX11_init 48 = .ok (.bipush 60, 2) := by decide +kernel
theorem dX11_init_50 : decode cX11_init 50 = .ok (.newarray .int, 2) := by decide +kernel
theorem dX11_init_52 : decode cX11_init 52 = .ok (.putfield 25, 3) := by decide +kernel
theorem dX11_init_55 : decode cX11_init 55 = .ok (.aload_n 0, 1) := by decide +kernel
theorem dX11_init_56 : decode cX11_init 56 = .ok (.ldc 28, 2) := by decide +kernel
theorem dX11_init_58 : decode cX11_init 58 = .ok (.newarray .int, 2) := by decide +kernel
theorem dX11_init_60 : decode cX11_init 60 = .ok (.putfield 29, 3) := by decide +kernel
theorem dX11_init_63 : decode cX11_init 63 = .ok (.aload_n 0, 1) := by decide +kernel
theorem dX11_init_64 : decode cX11_init 64 = .ok (.bipush 32, 2) := by decide +kernel
theorem dX11_init_66 : decode cX11_init 66 = .ok (.newarray .int, 2) := by decide +kernel
theorem dX11_init_68 : decode cX11_init 68 = .ok (.putfield 32, 3) := by decide +kernel
theorem dX11_init_71 : decode cX11_init 71 = .ok (.aload_n 0, 1) := by decide +kernel
theorem dX11_init_72 : decode cX11_init 72 = .ok (.bipush 32, 2) := by decide +kernel
theorem dX11_init_74 : decode cX11_init 74 = .ok (.newarray .int, 2) := by decide +kernel
theorem dX11_init_76 : decode cX11_init 76 = .ok (.putfield 35, 3) := by decide +kernel
theorem dX11_init_79 : decode cX11_init 79 = .ok (.aload_n 0, 1) := by decide +kernel
theorem dX11_init_80 : decode cX11_init 80 = .ok (.iconst 4, 1) := by decide +kernel
theorem dX11_init_81 : decode cX11_init 81 = .ok (.newarray .int, 2) := by decide +kernel
theorem dX11_init_83 : decode cX11_init 83 = .ok (.putfield 38, 3) := by decide +kernel
theorem dX11_init_86 : decode cX11_init 86 = .ok (.aload_n 0, 1) := by decide +kernel
theorem dX11_init_87 : decode cX11_init 87 = .ok (.iconst 4, 1) := by decide +kernel
theorem dX11_init_88 : decode cX11_init 88 = .ok (.newarray .int, 2) := by decide +kernel
theorem dX11_init_90 : decode cX11_init 90 = .ok (.putfield 41, 3) := by decide +kernel
theorem dX11_init_93 : decode cX11_init 93 = .ok (.aload_n 0, 1) := by decide +kernel
theorem dX11_init_94 : decode cX11_init 94 = .ok (.iconst 4, 1) := by decide +kernel
theorem dX11_init_95 : decode cX11_init 95 = .ok (.newarray .int, 2) := by decide +kernel
theorem dX11_init_97 : decode cX11_init 97 = .ok (.putfield 44, 3) := by decide +kernel
theorem dX11_init_100 : decode cX11_init 100 = .ok (.aload_n 0, 1) := by decide +kernel
theorem dX11_init_101 : decode cX11_init 101 = .ok (.iconst 4, 1) := by decide +kernel
theorem dX11_init_102 : decode cX11_init 102 = .ok (.newarray .int, 2) := by decide +kernel
theorem dX11_init_104 : decode cX11_init 104 = .ok (.putfield 47, 3) := by decide +kernel
theorem dX11_init_107 : decode cX11_init 107 = .ok (.aload_n 0, 1) := by decide +kernel
theorem dX11_init_108 : decode cX11_init 108 = .ok (.bipush 36, 2) := by decide +kernel
theorem dX11_init_110 : decode cX11_init 110 = .ok (.newarray .int, 2) := by decide +kernel
theorem dX11_init_112 : decode cX11_init 112 = .ok (.putfield 50, 3) := by decide +kernel
theorem dX11_init_115 : decode cX11_init 115 = .ok (.aload_n 0, 1) := by decide +kernel
theorem dX11_init_116 : decode cX11_init 116 = .ok (.iconst 4, 1) := by decide +kernel
theorem dX11_init_117 : decode cX11_init 117 = .ok (.newarray .int, 2) := by decide +kernel
theorem dX11_init_119 : decode cX11_init 119 = .ok (.putfield 53, 3) := by decide +kernel
theorem dX11_init_122 : decode cX11_init 122 = .ok (.aload_n 0, 1) := by decide +kernel
theorem dX11_init_123 : decode cX11_init 123 = .ok (.iconst 4, 1) := by decide +kernel
theorem dX11_init_124 : decode cX11_init 124 = .ok (.newarray .int, 2) := by decide +kernel
theorem dX11_init_126 : decode cX11_init 126 = .ok (.putfield 56, 3) := by decide +kernel
theorem dX11_init_129 : decode cX11_init 129 = .ok (.aload_n 0, 1) := by decide +kernel
theorem dX11_init_130 : decode cX11_init 130 = .ok (.iconst 4, 1) := by decide +kernel
theorem dX11_init_131 : decode cX11_init 131 = .ok (.newarray .int, 2) := by decide +kernel
theorem dX11_init_133 : decode cX11_init 133 = .ok (.putfield 59, 3) := by decide +kernel
theorem dX11_init_136 : decode cX11_init 136 = .ok (.aload_n 0, 1) := by decide +kernel
theorem dX11_init_137 : decode cX11_init 137 = .ok (.sipush 1028, 3) := by decide +kernel
theorem dX11_init_140 : decode cX11_init 140 = .ok (.newarray .float, 2) := by decide +kernel
theorem dX11_init_142 : decode cX11_init 142 = .ok (.putfield 62, 3) := by decide +kernel
theorem dX11_init_145 : decode cX11_init 145 = .ok (.aload_n 0, 1) := by decide +kernel
theorem dX11_init_146 : decode cX11_init 146 = .ok (.bipush 8, 2) := by decide +kernel
theorem dX11_init_148 : decode cX11_init 148 = .ok (.newarray .int, 2) := by decide +kernel
theorem dX11_init_150 : decode cX11_init 150 = .ok (.putfield 66, 3) := by decide +kernel
theorem dX11_init_153 : decode cX11_init 153 = .ok (.aload_n 0, 1) := by decide +kernel
theorem dX11_init_154 : decode cX11_init 154 = .ok (.sipush 512, 3) := by decide +kernel
theorem dX11_init_157 : decode cX11_init 157 = .ok (.newarray .long, 2) := by decide +kernel
theorem dX11_init_159 : decode cX11_init 159 = .ok (.putfield 69, 3) := by decide +kernel
theorem dX11_init_162 : decode cX11_init 162 = .ok (.iconst 0, 1) := by decide +kernel
theorem dX11_init_163 : decode cX11_init 163 = .ok (.istore_n 1, 1) := by decide +kernel
theorem dX11_init_164 : decode cX11_init 164 = .ok (.iload_n 1, 1) := by decide +kernel
theorem dX11_init_165 : decode cX11_init 165 = .ok (.iconst 4, 1) := by decide +kernel
theorem dX11_init_166 : decode cX11_init 166 = .ok (.if_icmp .ge 30, 3) := by decide +kernel
theorem dX11_init_169 : decode cX11_init 169 = .ok (.aload_n 0, 1) := by decide +kernel
theorem dX11_init_170 : decode cX11_init 170 = .ok (.getfield 38, 3) := by decide +kernel
theorem dX11_init_173 : decode cX11_init 173 = .ok (.iload_n 1, 1) := by decide +kernel
theorem dX11_init_174 : decode cX11_init 174 = .ok (.iconst (-1), 1) := by decide +kernel
theorem dX11_init_175 : decode cX11_init 175 = .ok (.iastore, 1) := by decide +kernel
theorem dX11_init_176 : decode cX11_init 176 = .ok (.aload_n 0, 1) := by decide +kernel
theorem dX11_init_177 : decode cX11_init 177 = .ok (.getfield 44, 3) := by decide +kernel
theorem dX11_init_180 : decode cX11_init 180 = .ok (.iload_n 1, 1) := by decide +kernel
theorem dX11_init_181 : decode cX11_init 181 = .ok (.iconst 1, 1) := by decide +kernel
theorem dX11_init_182 : decode cX11_init 182 = .ok (.iastore, 1) := by decide +kernel
theorem dX11_init_183 : decode cX11_init 183 = .ok (.aload_n 0, 1) := by decide +kernel
theorem dX11_init_184 : decode cX11_init 184 = .ok (.getfield 56, 3) := by decide +kernel
theorem dX11_init_187 : decode cX11_init 187 = .ok (.iload_n 1, 1) := by decide +kernel
theorem dX11_init_188 : decode cX11_init 188 = .ok (.iconst (-1), 1) := by decide +kernel
theorem dX11_init_189 : decode cX11_init 189 = .ok (.iastore, 1) := by decide +kernel
theorem dX11_init_190 : decode cX11_init 190 = .ok (.iinc 1 1, 3) := by decide +kernel
theorem dX11_init_193 : decode cX11_init 193 = .ok (.goto (-29), 3) := by decide +kernel
theorem dX11_init_196 : decode cX11_init 196 = .ok (.iconst 0, 1) := by decide +kernel
theorem dX11_init_197 : decode cX11_init 197 = .ok (.istore_n 1, 1) := by decide +kernel
theorem dX11_init_198 : decode cX11_init 198 = .ok (.iload_n 1, 1) := by decide +kernel
theorem dX11_init_199 : decode cX11_init 199 = .ok (.bipush 8, 2) := by decide +kernel
theorem dX11_init_201 : decode cX11_init 201 = .ok (.if_icmp .ge 16, 3) := by decide +kernel
theorem dX11_init_204 : decode cX11_init 204 = .ok (.aload_n 0, 1) := by decide +kernel
theorem dX11_init_205 : decode cX11_init 205 = .ok (.getfield 66, 3) := by decide +kernel
theorem dX11_init_208 : decode cX11_init 208 = .ok (.iload_n 1, 1) := by decide +kernel
theorem dX11_init_209 : decode cX11_init 209 = .ok (.iconst (-1), 1) := by decide +kernel
theorem dX11_init_210 : decode cX11_init 210 = .ok (.iastore, 1) := by decide +kernel
theorem dX11_init_211 : decode cX11_init 211 = .ok (.iinc 1 1, 3) := by decide +kernel
theorem dX11_init_214 : decode cX11_init 214 = .ok (.goto (-16), 3) := by decide +kernel
theorem dX11_init_217 : decode cX11_init 217 = .ok (.return_, 1) := by decide +kernel
theorem dX11_floor_0 : decode cX11_floor 0 = .ok (.lload_n 0, 1) := by decide +kernel
theorem dX11_floor_1 : decode cX11_floor 1 = .ok (.lload_n 2, 1) := by decide +kernel
theorem dX11_floor_2 : decode cX11_floor 2 = .ok (.ldiv, 1) := by decide +kernel
theorem dX11_floor_3 : decode cX11_floor 3 = .ok (.lstore 4, 2) := by decide +kernel
theorem dX11_floor_5 : decode cX11_floor 5 = .ok (.lload_n 0, 1) := by decide +kernel
theorem dX11_floor_6 : decode cX11_floor 6 = .ok (.lload_n 2, 1) := by decide +kernel
theorem dX11_floor_7 : decode cX11_floor 7 = .ok (.lrem, 1) := by decide +kernel
theorem dX11_floor_8 : decode cX11_floor 8 = .ok (.lconst 0, 1) := by decide +kernel
theorem dX11_floor_9 : decode cX11_floor 9 = .ok (.lcmp, 1) := by decide +kernel
theorem dX11_floor_10 : decode cX11_floor 10 = .ok (.ifCond .ge 10, 3) := by decide +kernel
theorem dX11_floor_13 : decode cX11_floor 13 = .ok (.lload 4, 2) := by decide +kernel
theorem dX11_floor_15 : decode cX11_floor 15 = .ok (.lconst 1, 1) := by decide +kernel
theorem dX11_floor_16 : decode cX11_floor 16 = .ok (.lsub, 1) := by decide +kernel
theorem dX11_floor_17 : decode cX11_floor 17 = .ok (.goto 5, 3) := by decide +kernel
theorem dX11_floor_20 : decode cX11_floor 20 = .ok (.lload 4, 2) := by decide +kernel
theorem dX11_floor_22 : decode cX11_floor 22 = .ok (.lreturn, 1) := by decide +kernel
theorem dX11_rounded_0 : decode cX11_rounded 0 = .ok (.lload_n 0, 1) := by decide +kernel
theorem dX11_rounded_1 : decode cX11_rounded 1 = .ok (.lload_n 2, 1) := by decide +kernel
theorem dX11_rounded_2 : decode cX11_rounded 2 = .ok (.invokestatic 73, 3) := by decide +kernel
theorem dX11_rounded_5 : decode cX11_rounded 5 = .ok (.lstore 4, 2) := by decide +kernel
theorem dX11_rounded_7 : decode cX11_rounded 7 = .ok (.ldc2_w 77, 3) := by decide +kernel
theorem dX11_rounded_10 : decode cX11_rounded 10 = .ok (.lload_n 0, 1) := by decide +kernel
theorem dX11_rounded_11 : decode cX11_rounded 11 = .ok (.lload 4, 2) := by decide +kernel
theorem dX11_rounded_13 : decode cX11_rounded 13 = .ok (.lload_n 2, 1) := by decide +kernel
theorem dX11_rounded_14 : decode cX11_rounded 14 = .ok (.lmul, 1) := by decide +kernel
theorem dX11_rounded_15 : decode cX11_rounded 15 = .ok (.lsub, 1) := by decide +kernel
theorem dX11_rounded_16 : decode cX11_rounded 16 = .ok (.lmul, 1) := by decide +kernel
theorem dX11_rounded_17 : decode cX11_rounded 17 = .ok (.lstore 6, 2) := by decide +kernel
theorem dX11_rounded_19 : decode cX11_rounded 19 = .ok (.lload 6, 2) := by decide +kernel
theorem dX11_rounded_21 : decode cX11_rounded 21 = .ok (.lload_n 2, 1) := by decide +kernel
theorem dX11_rounded_22 : decode cX11_rounded 22 = .ok (.lcmp, 1) := by decide +kernel
theorem dX11_rounded_23 : decode cX11_rounded 23 = .ok (.ifCond .gt 19, 3) := by decide +kernel
theorem dX11_rounded_26 : decode cX11_rounded 26 = .ok (.lload 6, 2) := by decide +kernel
theorem dX11_rounded_28 : decode cX11_rounded 28 = .ok (.lload_n 2, 1) := by decide +kernel
theorem dX11_rounded_29 : decode cX11_rounded 29 = .ok (.lcmp, 1) := by decide +kernel
theorem dX11_rounded_30 : decode cX11_rounded 30 = .ok (.ifCond .ne 19, 3) := by decide +kernel
theorem dX11_rounded_33 : decode cX11_rounded 33 = .ok (.lload 4, 2) := by decide +kernel
theorem dX11_rounded_35 : decode cX11_rounded 35 = .ok (.lconst 1, 1) := by decide +kernel
theorem dX11_rounded_36 : decode cX11_rounded 36 = .ok (.land, 1) := by decide +kernel
theorem dX11_rounded_37 : decode cX11_rounded 37 = .ok (.lconst 0, 1) := by decide +kernel
theorem dX11_rounded_38 : decode cX11_rounded 38 = .ok (.lcmp, 1) := by decide +kernel
theorem dX11_rounded_39 : decode cX11_rounded 39 = .ok (.ifCond .eq 10, 3) := by decide +kernel
theorem dX11_rounded_42 : decode cX11_rounded 42 = .ok (.lload 4, 2) := by decide +kernel
theorem dX11_rounded_44 : decode cX11_rounded 44 = .ok (.lconst 1, 1) := by decide +kernel
theorem dX11_rounded_45 : decode cX11_rounded 45 = .ok (.ladd, 1) := by decide +kernel
theorem dX11_rounded_46 : decode cX11_rounded 46 = .ok (.goto 5, 3) := by decide +kernel
theorem dX11_rounded_49 : decode cX11_rounded 49 = .ok (.lload 4, 2) := by decide +kernel
theorem dX11_rounded_51 : decode cX11_rounded 51 = .ok (.lreturn, 1) := by decide +kernel
theorem dX11_bounded_0 : decode cX11_bounded 0 = .ok (.lload_n 0, 1) := by decide +kernel
theorem dX11_bounded_1 : decode cX11_bounded 1 = .ok (.ldc2_w 79, 3) := by decide +kernel
theorem dX11_bounded_4 : decode cX11_bounded 4 = .ok (.lcmp, 1) := by decide +kernel
theorem dX11_bounded_5 : decode cX11_bounded 5 = .ok (.ifCond .ge 8, 3) := by decide +kernel
theorem dX11_bounded_8 : decode cX11_bounded 8 = .ok (.ldc 81, 2) := by decide +kernel
theorem dX11_bounded_10 : decode cX11_bounded 10 = .ok (.goto 18, 3) := by decide +kernel
theorem dX11_bounded_13 : decode cX11_bounded 13 = .ok (.lload_n 0, 1) := by decide +kernel
theorem dX11_bounded_14 : decode cX11_bounded 14 = .ok (.ldc2_w 82, 3) := by decide +kernel
theorem dX11_bounded_17 : decode cX11_bounded 17 = .ok (.lcmp, 1) := by decide +kernel
theorem dX11_bounded_18 : decode cX11_bounded 18 = .ok (.ifCond .le 8, 3) := by decide +kernel
theorem dX11_bounded_21 : decode cX11_bounded 21 = .ok (.ldc 84, 2) := by decide +kernel
theorem dX11_bounded_23 : decode cX11_bounded 23 = .ok (.goto 5, 3) := by decide +kernel
theorem dX11_bounded_26 : decode cX11_bounded 26 = .ok (.lload_n 0, 1) := by decide +kernel
theorem dX11_bounded_27 : decode cX11_bounded 27 = .ok (.l2i, 1) := by decide +kernel
theorem dX11_bounded_28 : decode cX11_bounded 28 = .ok (.ireturn, 1) := by decide +kernel
theorem dX11_isCount_0 : decode cX11_isCount 0 = .ok (.iload_n 0, 1) := by decide +kernel
theorem dX11_isCount_1 : decode cX11_isCount 1 = .ok (.ifCond .lt 14, 3) := by decide +kernel
theorem dX11_isCount_4 : decode cX11_isCount 4 = .ok (.iload_n 0, 1) := by decide +kernel
theorem dX11_isCount_5 : decode cX11_isCount 5 = .ok (.sipush 4096, 3) := by decide +kernel
theorem dX11_isCount_8 : decode cX11_isCount 8 = .ok (.if_icmp .ge 7, 3) := by decide +kernel
theorem dX11_isCount_11 : decode cX11_isCount 11 = .ok (.iconst 1, 1) := by decide +kernel
theorem dX11_isCount_12 : decode cX11_isCount 12 = .ok (.goto 4, 3) := by decide +kernel
theorem dX11_isCount_15 : decode cX11_isCount 15 = .ok (.iconst 0, 1) := by decide +kernel
theorem dX11_isCount_16 : decode cX11_isCount 16 = .ok (.ireturn, 1) := by decide +kernel
theorem dX11_isValue_0 : decode cX11_isValue 0 = .ok (.iload_n 0, 1) := by decide +kernel
theorem dX11_isValue_1 : decode cX11_isValue 1 = .ok (.ldc 81, 2) := by decide +kernel
theorem dX11_isValue_3 : decode cX11_isValue 3 = .ok (.if_icmp .lt 13, 3) := by decide +kernel
theorem dX11_isValue_6 : decode cX11_isValue 6 = .ok (.iload_n 0, 1) := by decide +kernel
theorem dX11_isValue_7 : decode cX11_isValue 7 = .ok (.ldc 84, 2) := by decide +kernel
theorem dX11_isValue_9 : decode cX11_isValue 9 = .ok (.if_icmp .gt 7, 3) := by decide +kernel
theorem dX11_isValue_12 : decode cX11_isValue 12 = .ok (.iconst 1, 1) := by decide +kernel
theorem dX11_isValue_13 : decode cX11_isValue 13 = .ok (.goto 4, 3) := by decide +kernel
theorem dX11_isValue_16 : decode cX11_isValue 16 = .ok (.iconst 0, 1) := by decide +kernel
theorem dX11_isValue_17 : decode cX11_isValue 17 = .ok (.ireturn, 1) := by decide +kernel
theorem dX11_isSensor_0 : decode cX11_isSensor 0 = .ok (.iload_n 0, 1) := by decide +kernel
theorem dX11_isSensor_1 : decode cX11_isSensor 1 = .ok (.ifCond .lt 13, 3) := by decide +kernel
theorem dX11_isSensor_4 : decode cX11_isSensor 4 = .ok (.iload_n 0, 1) := by decide +kernel
theorem dX11_isSensor_5 : decode cX11_isSensor 5 = .ok (.bipush 8, 2) := by decide +kernel
theorem dX11_isSensor_7 : decode cX11_isSensor 7 = .ok (.if_icmp .ge 7, 3) := by decide +kernel
theorem dX11_isSensor_10 : decode cX11_isSensor 10 = .ok (.iconst 1, 1) := by decide +kernel
theorem dX11_isSensor_11 : decode cX11_isSensor 11 = .ok (.goto 4, 3) := by decide +kernel
theorem dX11_isSensor_14 : decode cX11_isSensor 14 = .ok (.iconst 0, 1) := by decide +kernel
theorem dX11_isSensor_15 : decode cX11_isSensor 15 = .ok (.ireturn, 1) := by decide +kernel
theorem dX11_isCurve_0 : decode cX11_isCurve 0 = .ok (.iload_n 1, 1) := by decide +kernel
theorem dX11_isCurve_1 : decode cX11_isCurve 1 = .ok (.ifCond .lt 15, 3) := by decide +kernel
theorem dX11_isCurve_4 : decode cX11_isCurve 4 = .ok (.iload_n 1, 1) := by decide +kernel
theorem dX11_isCurve_5 : decode cX11_isCurve 5 = .ok (.aload_n 0, 1) := by decide +kernel
theorem dX11_isCurve_6 : decode cX11_isCurve 6 = .ok (.getfield 85, 3) := by decide +kernel
theorem dX11_isCurve_9 : decode cX11_isCurve 9 = .ok (.if_icmp .ge 7, 3) := by decide +kernel
theorem dX11_isCurve_12 : decode cX11_isCurve 12 = .ok (.iconst 1, 1) := by decide +kernel
theorem dX11_isCurve_13 : decode cX11_isCurve 13 = .ok (.goto 4, 3) := by decide +kernel
theorem dX11_isCurve_16 : decode cX11_isCurve 16 = .ok (.iconst 0, 1) := by decide +kernel
theorem dX11_isCurve_17 : decode cX11_isCurve 17 = .ok (.ireturn, 1) := by decide +kernel
theorem dX11_reading_0 : decode cX11_reading 0 = .ok (.iload_n 1, 1) := by decide +kernel
theorem dX11_reading_1 : decode cX11_reading 1 = .ok (.invokestatic 89, 3) := by decide +kernel
theorem dX11_reading_4 : decode cX11_reading 4 = .ok (.ifCond .eq 48, 3) := by decide +kernel
theorem dX11_reading_7 : decode cX11_reading 7 = .ok (.iload_n 2, 1) := by decide +kernel
theorem dX11_reading_8 : decode cX11_reading 8 = .ok (.invokestatic 93, 3) := by decide +kernel
theorem dX11_reading_11 : decode cX11_reading 11 = .ok (.ifCond .eq 41, 3) := by decide +kernel
theorem dX11_reading_14 : decode cX11_reading 14 = .ok (.iload_n 3, 1) := by decide +kernel
theorem dX11_reading_15 : decode cX11_reading 15 = .ok (.sipush (-10000), 3) := by decide +kernel
theorem dX11_reading_18 : decode cX11_reading 18 = .ok (.if_icmp .lt 34, 3) := by decide +kernel
theorem dX11_reading_21 : decode cX11_reading 21 = .ok (.iload_n 3, 1) := by decide +kernel
theorem dX11_reading_22 : decode cX11_reading 22 = .ok (.sipush 10000, 3) := by decide +kernel
theorem dX11_reading_25 : decode cX11_reading 25 = .ok (.if_icmp .gt 27, 3) := by decide +kernel
theorem dX11_reading_28 : decode cX11_reading 28 = .ok (.iload 4, 2) := by decide +kernel
theorem dX11_reading_30 : decode cX11_reading 30 = .ok (.iconst 1, 1) := by decide +kernel
theorem dX11_reading_31 : decode cX11_reading 31 = .ok (.if_icmp .lt 21, 3) := by decide +kernel
theorem dX11_reading_34 : decode cX11_reading 34 = .ok (.iload 4, 2) := by decide +kernel
theorem dX11_reading_36 : decode cX11_reading 36 = .ok (.bipush 20, 2) := by decide +kernel
theorem dX11_reading_38 : decode cX11_reading 38 = .ok (.if_icmp .gt 14, 3) := by decide +kernel
theorem dX11_reading_41 : decode cX11_reading 41 = .ok (.aload_n 0, 1) := by decide +kernel
theorem dX11_reading_42 : decode cX11_reading 42 = .ok (.getfield 9, 3) := by decide +kernel
theorem dX11_reading_45 : decode cX11_reading 45 = .ok (.iload_n 1, 1) := by decide +kernel
theorem dX11_reading_46 : decode cX11_reading 46 = .ok (.iaload, 1) := by decide +kernel
theorem dX11_reading_47 : decode cX11_reading 47 = .ok (.bipush 24, 2) := by decide +kernel
theorem dX11_reading_49 : decode cX11_reading 49 = .ok (.if_icmp .ne 6, 3) := by decide +kernel
theorem dX11_reading_52 : decode cX11_reading 52 = .ok (.bipush (-2), 2) := by decide +kernel
theorem dX11_reading_54 : decode cX11_reading 54 = .ok (.ireturn, 1) := by decide +kernel
theorem dX11_reading_55 : decode cX11_reading 55 = .ok (.bipush 24, 2) := by decide +kernel
theorem dX11_reading_57 : decode cX11_reading 57 = .ok (.iload_n 1, 1) := by decide +kernel
theorem dX11_reading_58 : decode cX11_reading 58 = .ok (.imul, 1) := by decide +kernel
theorem dX11_reading_59 : decode cX11_reading 59 = .ok (.aload_n 0, 1) := by decide +kernel
theorem dX11_reading_60 : decode cX11_reading 60 = .ok (.getfield 9, 3) := by decide +kernel
theorem dX11_reading_63 : decode cX11_reading 63 = .ok (.iload_n 1, 1) := by decide +kernel
theorem dX11_reading_64 : decode cX11_reading 64 = .ok (.iaload, 1) := by decide +kernel
theorem dX11_reading_65 : decode cX11_reading 65 = .ok (.iadd, 1) := by decide +kernel
theorem dX11_reading_66 : decode cX11_reading 66 = .ok (.istore 5, 2) := by decide +kernel
theorem dX11_reading_68 : decode cX11_reading 68 = .ok (.aload_n 0, 1) := by decide +kernel
theorem dX11_reading_69 : decode cX11_reading 69 = .ok (.getfield 13, 3) := by decide +kernel
theorem dX11_reading_72 : decode cX11_reading 72 = .ok (.iload 5, 2) := by decide +kernel
theorem dX11_reading_74 : decode cX11_reading 74 = .ok (.iload_n 2, 1) := by decide +kernel
theorem dX11_reading_75 : decode cX11_reading 75 = .ok (.iastore, 1) := by decide +kernel
theorem dX11_reading_76 : decode cX11_reading 76 = .ok (.aload_n 0, 1) := by decide +kernel
theorem dX11_reading_77 : decode cX11_reading 77 = .ok (.getfield 16, 3) := by decide +kernel
theorem dX11_reading_80 : decode cX11_reading 80 = .ok (.iload 5, 2) := by decide +kernel
theorem dX11_reading_82 : decode cX11_reading 82 = .ok (.iload_n 3, 1) := by decide +kernel
theorem dX11_reading_83 : decode cX11_reading 83 = .ok (.iastore, 1) := by decide +kernel
theorem dX11_reading_84 : decode cX11_reading 84 = .ok (.aload_n 0, 1) := by decide +kernel
theorem dX11_reading_85 : decode cX11_reading 85 = .ok (.getfield 19, 3) := by decide +kernel
theorem dX11_reading_88 : decode cX11_reading 88 = .ok (.iload 5, 2) := by decide +kernel
theorem dX11_reading_90 : decode cX11_reading 90 = .ok (.iload 4, 2) := by decide +kernel
theorem dX11_reading_92 : decode cX11_reading 92 = .ok (.iastore, 1) := by decide +kernel
theorem dX11_reading_93 : decode cX11_reading 93 = .ok (.aload_n 0, 1) := by decide +kernel
theorem dX11_reading_94 : decode cX11_reading 94 = .ok (.getfield 9, 3) := by decide +kernel
theorem dX11_reading_97 : decode cX11_reading 97 = .ok (.iload_n 1, 1) := by decide +kernel
theorem dX11_reading_98 : decode cX11_reading 98 = .ok (.dup2, 1) := by decide +kernel
theorem dX11_reading_99 : decode cX11_reading 99 = .ok (.iaload, 1) := by decide +kernel
theorem dX11_reading_100 : decode cX11_reading 100 = .ok (.iconst 1, 1) := by decide +kernel
theorem dX11_reading_101 : decode cX11_reading 101 = .ok (.iadd, 1) := by decide +kernel
theorem dX11_reading_102 : decode cX11_reading 102 = .ok (.iastore, 1) := by decide +kernel
theorem dX11_reading_103 : decode cX11_reading 103 = .ok (.aload_n 0, 1) := by decide +kernel
theorem dX11_reading_104 : decode cX11_reading 104 = .ok (.getfield 9, 3) := by decide +kernel
theorem dX11_reading_107 : decode cX11_reading 107 = .ok (.iload_n 1, 1) := by decide +kernel
theorem dX11_reading_108 : decode cX11_reading 108 = .ok (.iaload, 1) := by decide +kernel
theorem dX11_reading_109 : decode cX11_reading 109 = .ok (.ireturn, 1) := by decide +kernel
theorem dX11_isReading_0 : decode cX11_isReading 0 = .ok (.iload_n 1, 1) := by decide +kernel
theorem dX11_isReading_1 : decode cX11_isReading 1 = .ok (.invokestatic 89, 3) := by decide +kernel
theorem dX11_isReading_4 : decode cX11_isReading 4 = .ok (.ifCond .eq 21, 3) := by decide +kernel
theorem dX11_isReading_7 : decode cX11_isReading 7 = .ok (.iload_n 2, 1) := by decide +kernel
theorem dX11_isReading_8 : decode cX11_isReading 8 = .ok (.ifCond .lt 17, 3) := by decide +kernel
theorem dX11_isReading_11 : decode cX11_isReading 11 = .ok (.iload_n 2, 1) := by decide +kernel
theorem dX11_isReading_12 : decode cX11_isReading 12 = .ok (.aload_n 0, 1) := by decide +kernel
theorem dX11_isReading_13 : decode cX11_isReading 13 = .ok (.getfield 9, 3) := by decide +kernel
theorem dX11_isReading_16 : decode cX11_isReading 16 = .ok (.iload_n 1, 1) := by decide +kernel
theorem dX11_isReading_17 : decode cX11_isReading 17 = .ok (.iaload, 1) := by decide +kernel
theorem dX11_isReading_18 : decode cX11_isReading 18 = .ok (.if_icmp .ge 7, 3) := by decide +kernel
theorem dX11_isReading_21 : decode cX11_isReading 21 = .ok (.iconst 1, 1) := by decide +kernel
theorem dX11_isReading_22 : decode cX11_isReading 22 = .ok (.goto 4, 3) := by decide +kernel
theorem dX11_isReading_25 : decode cX11_isReading 25 = .ok (.iconst 0, 1) := by decide +kernel
theorem dX11_isReading_26 : decode cX11_isReading 26 = .ok (.ireturn, 1) := by decide +kernel
theorem dX11_drop_0 : decode cX11_drop 0 = .ok (.aload_n 0, 1) := by decide +kernel
theorem dX11_drop_1 : decode cX11_drop 1 = .ok (.iload_n 1, 1) := by decide +kernel
theorem dX11_drop_2 : decode cX11_drop 2 = .ok (.iload_n 2, 1) := by decide +kernel
theorem dX11_drop_3 : decode cX11_drop 3 = .ok (.invokevirtual 96, 3) := by decide +kernel
theorem dX11_drop_6 : decode cX11_drop 6 = .ok (.ifCond .ne 6, 3) := by decide +kernel
theorem dX11_drop_9 : decode cX11_drop 9 = .ok (.bipush (-2), 2) := by decide +kernel
theorem dX11_drop_11 : decode cX11_drop 11 = .ok (.ireturn, 1) := by decide +kernel
theorem dX11_drop_12 : decode cX11_drop 12 = .ok (.aload_n 0, 1) := by decide +kernel
theorem dX11_drop_13 : decode cX11_drop 13 = .ok (.getfield 9, 3) := by decide +kernel
theorem dX11_drop_16 : decode cX11_drop 16 = .ok (.iload_n 1, 1) := by decide +kernel
theorem dX11_drop_17 : decode cX11_drop 17 = .ok (.dup2, 1) := by decide +kernel
theorem dX11_drop_18 : decode cX11_drop 18 = .ok (.iaload, 1) := by decide +kernel
theorem dX11_drop_19 : decode cX11_drop 19 = .ok (.iconst 1, 1) := by decide +kernel
theorem dX11_drop_20 : decode cX11_drop 20 = .ok (.isub, 1) := by decide +kernel
theorem dX11_drop_21 : decode cX11_drop 21 = .ok (.iastore, 1) := by decide +kernel
theorem dX11_drop_22 : decode cX11_drop 22 = .ok (.iload_n 2, 1) := by decide +kernel
theorem dX11_drop_23 : decode cX11_drop 23 = .ok (.istore_n 3, 1) := by decide +kernel
theorem dX11_drop_24 : decode cX11_drop 24 = .ok (.iload_n 3, 1) := by decide +kernel
theorem dX11_drop_25 : decode cX11_drop 25 = .ok (.aload_n 0, 1) := by decide +kernel
theorem dX11_drop_26 : decode cX11_drop 26 = .ok (.getfield 9, 3) := by decide +kernel
theorem dX11_drop_29 : decode cX11_drop 29 = .ok (.iload_n 1, 1) := by decide +kernel
theorem dX11_drop_30 : decode cX11_drop 30 = .ok (.iaload, 1) := by decide +kernel
theorem dX11_drop_31 : decode cX11_drop 31 = .ok (.if_icmp .ge 65, 3) := by decide +kernel
theorem dX11_drop_34 : decode cX11_drop 34 = .ok (.bipush 24, 2) := by decide +kernel
theorem dX11_drop_36 : decode cX11_drop 36 = .ok (.iload_n 1, 1) := by decide +kernel
theorem dX11_drop_37 : decode cX11_drop 37 = .ok (.imul, 1) := by decide +kernel
theorem dX11_drop_38 : decode cX11_drop 38 = .ok (.iload_n 3, 1) := by decide +kernel
theorem dX11_drop_39 : decode cX11_drop 39 = .ok (.iadd, 1) := by decide +kernel
theorem dX11_drop_40 : decode cX11_drop 40 = .ok (.istore 4, 2) := by decide +kernel
theorem dX11_drop_42 : decode cX11_drop 42 = .ok (.aload_n 0, 1) := by decide +kernel
theorem dX11_drop_43 : decode cX11_drop 43 = .ok (.getfield 13, 3) := by decide +kernel
theorem dX11_drop_46 : decode cX11_drop 46 = .ok (.iload 4, 2) := by decide +kernel
theorem dX11_drop_48 : decode cX11_drop 48 = .ok (.aload_n 0, 1) := by decide +kernel
theorem dX11_drop_49 : decode cX11_drop 49 = .ok (.getfield 13, 3) := by decide +kernel
theorem dX11_drop_52 : decode cX11_drop 52 = .ok (.iload 4, 2) := by decide +kernel
theorem dX11_drop_54 : decode cX11_drop 54 = .ok (.iconst 1, 1) := by decide +kernel
theorem dX11_drop_55 : decode cX11_drop 55 = .ok (.iadd, 1) := by decide +kernel
theorem dX11_drop_56 : decode cX11_drop 56 = .ok (.iaload, 1) := by decide +kernel
theorem dX11_drop_57 : decode cX11_drop 57 = .ok (.iastore, 1) := by decide +kernel
theorem dX11_drop_58 : decode cX11_drop 58 = .ok (.aload_n 0, 1) := by decide +kernel
theorem dX11_drop_59 : decode cX11_drop 59 = .ok (.getfield 16, 3) := by decide +kernel
theorem dX11_drop_62 : decode cX11_drop 62 = .ok (.iload 4, 2) := by decide +kernel
theorem dX11_drop_64 : decode cX11_drop 64 = .ok (.aload_n 0, 1) := by decide +kernel
theorem dX11_drop_65 : decode cX11_drop 65 = .ok (.getfield 16, 3) := by decide +kernel
theorem dX11_drop_68 : decode cX11_drop 68 = .ok (.iload 4, 2) := by decide +kernel
theorem dX11_drop_70 : decode cX11_drop 70 = .ok (.iconst 1, 1) := by decide +kernel
theorem dX11_drop_71 : decode cX11_drop 71 = .ok (.iadd, 1) := by decide +kernel
theorem dX11_drop_72 : decode cX11_drop 72 = .ok (.iaload, 1) := by decide +kernel
theorem dX11_drop_73 : decode cX11_drop 73 = .ok (.iastore, 1) := by decide +kernel
theorem dX11_drop_74 : decode cX11_drop 74 = .ok (.aload_n 0, 1) := by decide +kernel
theorem dX11_drop_75 : decode cX11_drop 75 = .ok (.getfield 19, 3) := by decide +kernel
theorem dX11_drop_78 : decode cX11_drop 78 = .ok (.iload 4, 2) := by decide +kernel
theorem dX11_drop_80 : decode cX11_drop 80 = .ok (.aload_n 0, 1) := by decide +kernel
theorem dX11_drop_81 : decode cX11_drop 81 = .ok (.getfield 19, 3) := by decide +kernel
theorem dX11_drop_84 : decode cX11_drop 84 = .ok (.iload 4, 2) := by decide +kernel
theorem dX11_drop_86 : decode cX11_drop 86 = .ok (.iconst 1, 1) := by decide +kernel
theorem dX11_drop_87 : decode cX11_drop 87 = .ok (.iadd, 1) := by decide +kernel
theorem dX11_drop_88 : decode cX11_drop 88 = .ok (.iaload, 1) := by decide +kernel
theorem dX11_drop_89 : decode cX11_drop 89 = .ok (.iastore, 1) := by decide +kernel
theorem dX11_drop_90 : decode cX11_drop 90 = .ok (.iinc 3 1, 3) := by decide +kernel
theorem dX11_drop_93 : decode cX11_drop 93 = .ok (.goto (-69), 3) := by decide +kernel
theorem dX11_drop_96 : decode cX11_drop 96 = .ok (.aload_n 0, 1) := by decide +kernel
theorem dX11_drop_97 : decode cX11_drop 97 = .ok (.getfield 9, 3) := by decide +kernel
theorem dX11_drop_100 : decode cX11_drop 100 = .ok (.iload_n 1, 1) := by decide +kernel
theorem dX11_drop_101 : decode cX11_drop 101 = .ok (.iaload, 1) := by decide +kernel
theorem dX11_drop_102 : decode cX11_drop 102 = .ok (.ireturn, 1) := by decide +kernel
theorem dX11_newCurve_0 : decode cX11_newCurve 0 = .ok (.aload_n 0, 1) := by decide +kernel
theorem dX11_newCurve_1 : decode cX11_newCurve 1 = .ok (.getfield 22, 3) := by decide +kernel
theorem dX11_newCurve_4 : decode cX11_newCurve 4 = .ok (.aload_n 0, 1) := by decide +kernel
theorem dX11_newCurve_5 : decode cX11_newCurve 5 = .ok (.getfield 85, 3) := by decide +kernel
theorem dX11_newCurve_8 : decode cX11_newCurve 8 = .ok (.iload_n 1, 1) := by decide +kernel
theorem dX11_newCurve_9 : decode cX11_newCurve 9 = .ok (.iastore, 1) := by decide +kernel
theorem dX11_newCurve_10 : decode cX11_newCurve 10 = .ok (.aload_n 0, 1) := by decide +kernel
theorem dX11_newCurve_11 : decode cX11_newCurve 11 = .ok (.getfield 25, 3) := by decide +kernel
theorem dX11_newCurve_14 : decode cX11_newCurve 14 = .ok (.aload_n 0, 1) := by decide +kernel
theorem dX11_newCurve_15 : decode cX11_newCurve 15 = .ok (.getfield 85, 3) := by decide +kernel
theorem dX11_newCurve_18 : decode cX11_newCurve 18 = .ok (.iload_n 2, 1) := by decide +kernel
theorem dX11_newCurve_19 : decode cX11_newCurve 19 = .ok (.iastore, 1) := by decide +kernel
theorem dX11_newCurve_20 : decode cX11_newCurve 20 = .ok (.aload_n 0, 1) := by decide +kernel
theorem dX11_newCurve_21 : decode cX11_newCurve 21 = .ok (.dup, 1) := by decide +kernel
theorem dX11_newCurve_22 : decode cX11_newCurve 22 = .ok (.getfield 85, 3) := by decide +kernel
theorem dX11_newCurve_25 : decode cX11_newCurve 25 = .ok (.iconst 1, 1) := by decide +kernel
theorem dX11_newCurve_26 : decode cX11_newCurve 26 = .ok (.iadd, 1) := by decide +kernel
theorem dX11_newCurve_27 : decode cX11_newCurve 27 = .ok (.putfield 85, 3) := by decide +kernel
theorem dX11_newCurve_30 : decode cX11_newCurve 30 = .ok (.aload_n 0, 1) := by decide +kernel
theorem dX11_newCurve_31 : decode cX11_newCurve 31 = .ok (.getfield 85, 3) := by decide +kernel
theorem dX11_newCurve_34 : decode cX11_newCurve 34 = .ok (.iconst 1, 1) := by decide +kernel
theorem dX11_newCurve_35 : decode cX11_newCurve 35 = .ok (.isub, 1) := by decide +kernel
theorem dX11_newCurve_36 : decode cX11_newCurve 36 = .ok (.ireturn, 1) := by decide +kernel
theorem dX11_line_0 : decode cX11_line 0 = .ok (.iload_n 1, 1) := by decide +kernel
theorem dX11_line_1 : decode cX11_line 1 = .ok (.invokestatic 89, 3) := by decide +kernel
theorem dX11_line_4 : decode cX11_line 4 = .ok (.ifCond .eq 12, 3) := by decide +kernel
theorem dX11_line_7 : decode cX11_line 7 = .ok (.aload_n 0, 1) := by decide +kernel
theorem dX11_line_8 : decode cX11_line 8 = .ok (.getfield 85, 3) := by decide +kernel
theorem dX11_line_11 : decode cX11_line 11 = .ok (.bipush 60, 2) := by decide +kernel
theorem dX11_line_13 : decode cX11_line 13 = .ok (.if_icmp .ne 6, 3) := by decide +kernel
theorem dX11_line_16 : decode cX11_line 16 = .ok (.bipush (-2), 2) := by decide +kernel
theorem dX11_line_18 : decode cX11_line 18 = .ok (.ireturn, 1) := by decide +kernel
theorem dX11_line_19 : decode cX11_line 19 = .ok (.lconst 0, 1) := by decide +kernel
theorem dX11_line_20 : decode cX11_line 20 = .ok (.lstore_n 2, 1) := by decide +kernel
theorem dX11_line_21 : decode cX11_line 21 = .ok (.lconst 0, 1) := by decide +kernel
theorem dX11_line_22 : decode cX11_line 22 = .ok (.lstore 4, 2) := by decide +kernel
theorem dX11_line_24 : decode cX11_line 24 = .ok (.lconst 0, 1) := by decide +kernel
theorem dX11_line_25 : decode cX11_line 25 = .ok (.lstore 6, 2) := by decide +kernel
theorem dX11_line_27 : decode cX11_line 27 = .ok (.lconst 0, 1) := by decide +kernel
theorem dX11_line_28 : decode cX11_line 28 = .ok (.lstore 8, 2) := by decide +kernel
theorem dX11_line_30 : decode cX11_line 30 = .ok (.lconst 0, 1) := by decide +kernel
theorem dX11_line_31 : decode cX11_line 31 = .ok (.lstore 10, 2) := by decide +kernel
theorem dX11_line_33 : decode cX11_line 33 = .ok (.iconst 0, 1) := by decide +kernel
theorem dX11_line_34 : decode cX11_line 34 = .ok (.istore 12, 2) := by decide +kernel
theorem dX11_line_36 : decode cX11_line 36 = .ok (.iload 12, 2) := by decide +kernel
theorem dX11_line_38 : decode cX11_line 38 = .ok (.aload_n 0, 1) := by decide +kernel
theorem dX11_line_39 : decode cX11_line 39 = .ok (.getfield 9, 3) := by decide +kernel
theorem dX11_line_42 : decode cX11_line 42 = .ok (.iload_n 1, 1) := by decide +kernel
theorem dX11_line_43 : decode cX11_line 43 = .ok (.iaload, 1) := by decide +kernel
theorem dX11_line_44 : decode cX11_line 44 = .ok (.if_icmp .ge 105, 3) := by decide +kernel
theorem dX11_line_47 : decode cX11_line 47 = .ok (.aload_n 0, 1) := by decide +kernel
theorem dX11_line_48 : decode cX11_line 48 = .ok (.getfield 13, 3) := by decide +kernel
theorem dX11_line_51 : decode cX11_line 51 = .ok (.bipush 24, 2) := by decide +kernel
theorem dX11_line_53 : decode cX11_line 53 = .ok (.iload_n 1, 1) := by decide +kernel
theorem dX11_line_54 : decode cX11_line 54 = .ok (.imul, 1) := by decide +kernel
theorem dX11_line_55 : decode cX11_line 55 = .ok (.iload 12, 2) := by decide +kernel
theorem dX11_line_57 : decode cX11_line 57 = .ok (.iadd, 1) := by decide +kernel
theorem dX11_line_58 : decode cX11_line 58 = .ok (.iaload, 1) := by decide +kernel
theorem dX11_line_59 : decode cX11_line 59 = .ok (.i2l, 1) := by decide +kernel
theorem dX11_line_60 : decode cX11_line 60 = .ok (.lstore 13, 2) := by decide +kernel
theorem dX11_line_62 : decode cX11_line 62 = .ok (.aload_n 0, 1) := by decide +kernel
theorem dX11_line_63 : decode cX11_line 63 = .ok (.getfield 16, 3) := by decide +kernel
theorem dX11_line_66 : decode cX11_line 66 = .ok (.bipush 24, 2) := by decide +kernel
theorem dX11_line_68 : decode cX11_line 68 = .ok (.iload_n 1, 1) := by decide +kernel
theorem dX11_line_69 : decode cX11_line 69 = .ok (.imul, 1) := by decide +kernel
theorem dX11_line_70 : decode cX11_line 70 = .ok (.iload 12, 2) := by decide +kernel
theorem dX11_line_72 : decode cX11_line 72 = .ok (.iadd, 1) := by decide +kernel
theorem dX11_line_73 : decode cX11_line 73 = .ok (.iaload, 1) := by decide +kernel
theorem dX11_line_74 : decode cX11_line 74 = .ok (.i2l, 1) := by decide +kernel
theorem dX11_line_75 : decode cX11_line 75 = .ok (.lstore 15, 2) := by decide +kernel
theorem dX11_line_77 : decode cX11_line 77 = .ok (.aload_n 0, 1) := by decide +kernel
theorem dX11_line_78 : decode cX11_line 78 = .ok (.getfield 19, 3) := by decide +kernel
theorem dX11_line_81 : decode cX11_line 81 = .ok (.bipush 24, 2) := by decide +kernel
theorem dX11_line_83 : decode cX11_line 83 = .ok (.iload_n 1, 1) := by decide +kernel
theorem dX11_line_84 : decode cX11_line 84 = .ok (.imul, 1) := by decide +kernel
theorem dX11_line_85 : decode cX11_line 85 = .ok (.iload 12, 2) := by decide +kernel
theorem dX11_line_87 : decode cX11_line 87 = .ok (.iadd, 1) := by decide +kernel
theorem dX11_line_88 : decode cX11_line 88 = .ok (.iaload, 1) := by decide +kernel
theorem dX11_line_89 : decode cX11_line 89 = .ok (.i2l, 1) := by decide +kernel
theorem dX11_line_90 : decode cX11_line 90 = .ok (.lstore 17, 2) := by decide +kernel
theorem dX11_line_92 : decode cX11_line 92 = .ok (.lload_n 2, 1) := by decide +kernel
theorem dX11_line_93 : decode cX11_line 93 = .ok (.lload 17, 2) := by decide +kernel
theorem dX11_line_95 : decode cX11_line 95 = .ok (.ladd, 1) := by decide +kernel
theorem dX11_line_96 : decode cX11_line 96 = .ok (.lstore_n 2, 1) := by decide +kernel
theorem dX11_line_97 : decode cX11_line 97 = .ok (.lload 4, 2) := by decide +kernel
theorem dX11_line_99 : decode cX11_line 99 = .ok (.lload 17, 2) := by decide +kernel
theorem dX11_line_101 : decode cX11_line 101 = .ok (.lload 13, 2) := by decide +kernel
theorem dX11_line_103 : decode cX11_line 103 = .ok (.lmul, 1) := by decide +kernel
theorem dX11_line_104 : decode cX11_line 104 = .ok (.ladd, 1) := by decide +kernel
theorem dX11_line_105 : decode cX11_line 105 = .ok (.lstore 4, 2) := by decide +kernel
theorem dX11_line_107 : decode cX11_line 107 = .ok (.lload 6, 2) := by decide +kernel
theorem dX11_line_109 : decode cX11_line 109 = .ok (.lload 17, 2) := by decide +kernel
theorem dX11_line_111 : decode cX11_line 111 = .ok (.lload 15, 2) := by decide +kernel
theorem dX11_line_113 : decode cX11_line 113 = .ok (.lmul, 1) := by decide +kernel
theorem dX11_line_114 : decode cX11_line 114 = .ok (.ladd, 1) := by decide +kernel
theorem dX11_line_115 : decode cX11_line 115 = .ok (.lstore 6, 2) := by decide +kernel
theorem dX11_line_117 : decode cX11_line 117 = .ok (.lload 8, 2) := by decide +kernel
theorem dX11_line_119 : decode cX11_line 119 = .ok (.lload 17, 2) := by decide +kernel
theorem dX11_line_121 : decode cX11_line 121 = .ok (.lload 13, 2) := by decide +kernel
theorem dX11_line_123 : decode cX11_line 123 = .ok (.lmul, 1) := by decide +kernel
theorem dX11_line_124 : decode cX11_line 124 = .ok (.lload 13, 2) := by decide +kernel
theorem dX11_line_126 : decode cX11_line 126 = .ok (.lmul, 1) := by decide +kernel
theorem dX11_line_127 : decode cX11_line 127 = .ok (.ladd, 1) := by decide +kernel
theorem dX11_line_128 : decode cX11_line 128 = .ok (.lstore 8, 2) := by decide +kernel
theorem dX11_line_130 : decode cX11_line 130 = .ok (.lload 10, 2) := by decide +kernel
theorem dX11_line_132 : decode cX11_line 132 = .ok (.lload 17, 2) := by decide +kernel
theorem dX11_line_134 : decode cX11_line 134 = .ok (.lload 13, 2) := by decide +kernel
theorem dX11_line_136 : decode cX11_line 136 = .ok (.lmul, 1) := by decide +kernel
theorem dX11_line_137 : decode cX11_line 137 = .ok (.lload 15, 2) := by decide +kernel
theorem dX11_line_139 : decode cX11_line 139 = .ok (.lmul, 1) := by decide +kernel
theorem dX11_line_140 : decode cX11_line 140 = .ok (.ladd, 1) := by decide +kernel
theorem dX11_line_141 : decode cX11_line 141 = .ok (.lstore 10, 2) := by decide +kernel
theorem dX11_line_143 : decode cX11_line 143 = .ok (.iinc 12 1, 3) := by decide +kernel
theorem dX11_line_146 : decode cX11_line 146 = .ok (.goto (-110), 3) := by decide +kernel
theorem dX11_line_149 : decode cX11_line 149 = .ok (.lload_n 2, 1) := by decide +kernel
theorem dX11_line_150 : decode cX11_line 150 = .ok (.lload 8, 2) := by decide +kernel
theorem dX11_line_152 : decode cX11_line 152 = .ok (.lmul, 1) := by decide +kernel
theorem dX11_line_153 : decode cX11_line 153 = .ok (.lload 4, 2) := by decide +kernel
theorem dX11_line_155 : decode cX11_line 155 = .ok (.lload 4, 2) := by decide +kernel
theorem dX11_line_157 : decode cX11_line 157 = .ok (.lmul, 1) := by decide +kernel
theorem dX11_line_158 : decode cX11_line 158 = .ok (.lsub, 1) := by decide +kernel
theorem dX11_line_159 : decode cX11_line 159 = .ok (.lstore 12, 2) := by decide +kernel
theorem dX11_line_161 : decode cX11_line 161 = .ok (.lload 12, 2) := by decide +kernel
theorem dX11_line_163 : decode cX11_line 163 = .ok (.lconst 0, 1) := by decide +kernel
theorem dX11_line_164 : decode cX11_line 164 = .ok (.lcmp, 1) := by decide +kernel
theorem dX11_line_165 : decode cX11_line 165 = .ok (.ifCond .ne 6, 3) := by decide +kernel
theorem dX11_line_168 : decode cX11_line 168 = .ok (.bipush (-3), 2) := by decide +kernel
theorem dX11_line_170 : decode cX11_line 170 = .ok (.ireturn, 1) := by decide +kernel
theorem dX11_line_171 : decode cX11_line 171 = .ok (.aload_n 0, 1) := by decide +kernel
theorem dX11_line_172 : decode cX11_line 172 = .ok (.iconst 0, 1) := by decide +kernel
theorem dX11_line_173 : decode cX11_line 173 = .ok (.iconst 1, 1) := by decide +kernel
theorem dX11_line_174 : decode cX11_line 174 = .ok (.invokevirtual 100, 3) := by decide +kernel
theorem dX11_line_177 : decode cX11_line 177 = .ok (.istore 14, 2) := by decide +kernel
theorem dX11_line_179 : decode cX11_line 179 = .ok (.iconst 0, 1) := by decide +kernel
theorem dX11_line_180 : decode cX11_line 180 = .ok (.istore 15, 2) := by decide +kernel
theorem dX11_line_182 : decode cX11_line 182 = .ok (.iload 15, 2) := by decide +kernel
theorem dX11_line_184 : decode cX11_line 184 = .ok (.sipush 4096, 3) := by decide +kernel
theorem dX11_line_187 : decode cX11_line 187 = .ok (.if_icmp .ge 57, 3) := by decide +kernel
theorem dX11_line_190 : decode cX11_line 190 = .ok (.aload_n 0, 1) := by decide +kernel
theorem dX11_line_191 : decode cX11_line 191 = .ok (.getfield 29, 3) := by decide +kernel
theorem dX11_line_194 : decode cX11_line 194 = .ok (.sipush 4096, 3) := by decide +kernel
theorem dX11_line_197 : decode cX11_line 197 = .ok (.iload 14, 2) := by decide +kernel
theorem dX11_line_199 : decode cX11_line 199 = .ok (.imul, 1) := by decide +kernel
theorem dX11_line_200 : decode cX11_line 200 = .ok (.iload 15, 2) := by decide +kernel
theorem dX11_line_202 : decode cX11_line 202 = .ok (.iadd, 1) := by decide +kernel
theorem dX11_line_203 : decode cX11_line 203 = .ok (.lload 8, 2) := by decide +kernel
theorem dX11_line_205 : decode cX11_line 205 = .ok (.lload 6, 2) := by decide +kernel
theorem dX11_line_207 : decode cX11_line 207 = .ok (.lmul, 1) := by decide +kernel
theorem dX11_line_208 : decode cX11_line 208 = .ok (.lload 4, 2) := by decide +kernel
theorem dX11_line_210 : decode cX11_line 210 = .ok (.lload 10, 2) := by decide +kernel
theorem dX11_line_212 : decode cX11_line 212 = .ok (.lmul, 1) := by decide +kernel
theorem dX11_line_213 : decode cX11_line 213 = .ok (.lsub, 1) := by decide +kernel
theorem dX11_line_214 : decode cX11_line 214 = .ok (.iload 15, 2) := by decide +kernel
theorem dX11_line_216 : decode cX11_line 216 = .ok (.i2l, 1) := by decide +kernel
theorem dX11_line_217 : decode cX11_line 217 = .ok (.lload_n 2, 1) := by decide +kernel
theorem dX11_line_218 : decode cX11_line 218 = .ok (.lload 10, 2) := by decide +kernel
theorem dX11_line_220 : decode cX11_line 220 = .ok (.lmul, 1) := by decide +kernel
theorem dX11_line_221 : decode cX11_line 221 = .ok (.lload 4, 2) := by decide +kernel
theorem dX11_line_223 : decode cX11_line 223 = .ok (.lload 6, 2) := by decide +kernel
theorem dX11_line_225 : decode cX11_line 225 = .ok (.lmul, 1) := by decide +kernel
theorem dX11_line_226 : decode cX11_line 226 = .ok (.lsub, 1) := by decide +kernel
theorem dX11_line_227 : decode cX11_line 227 = .ok (.lmul, 1) := by decide +kernel
theorem dX11_line_228 : decode cX11_line 228 = .ok (.ladd, 1) := by decide +kernel
theorem dX11_line_229 : decode cX11_line 229 = .ok (.lload 12, 2) := by decide +kernel
theorem dX11_line_231 : decode cX11_line 231 = .ok (.invokestatic 104, 3) := by decide +kernel
theorem dX11_line_234 : decode cX11_line 234 = .ok (.invokestatic 107, 3) := by decide +kernel
theorem dX11_line_237 : decode cX11_line 237 = .ok (.iastore, 1) := by decide +kernel
theorem dX11_line_238 : decode cX11_line 238 = .ok (.iinc 15 1, 3) := by decide +kernel
theorem dX11_line_241 : decode cX11_line 241 = .ok (.goto (-59), 3) := by decide +kernel
theorem dX11_line_244 : decode cX11_line 244 = .ok (.iload 14, 2) := by decide +kernel
theorem dX11_line_246 : decode cX11_line 246 = .ok (.ireturn, 1) := by decide +kernel
theorem dX11_knot_0 : decode cX11_knot 0 = .ok (.iload_n 1, 1) := by decide +kernel
theorem dX11_knot_1 : decode cX11_knot 1 = .ok (.invokestatic 93, 3) := by decide +kernel
theorem dX11_knot_4 : decode cX11_knot 4 = .ok (.ifCond .eq 48, 3) := by decide +kernel
theorem dX11_knot_7 : decode cX11_knot 7 = .ok (.aload_n 0, 1) := by decide +kernel
theorem dX11_knot_8 : decode cX11_knot 8 = .ok (.getfield 111, 3) := by decide +kernel
theorem dX11_knot_11 : decode cX11_knot 11 = .ok (.ifCond .le 18, 3) := by decide +kernel
theorem dX11_knot_14 : decode cX11_knot 14 = .ok (.iload_n 1, 1) := by decide +kernel
theorem dX11_knot_15 : decode cX11_knot 15 = .ok (.aload_n 0, 1) := by decide +kernel
theorem dX11_knot_16 : decode cX11_knot 16 = .ok (.getfield 32, 3) := by decide +kernel
theorem dX11_knot_19 : decode cX11_knot 19 = .ok (.aload_n 0, 1) := by decide +kernel
theorem dX11_knot_20 : decode cX11_knot 20 = .ok (.getfield 111, 3) := by decide +kernel
theorem dX11_knot_23 : decode cX11_knot 23 = .ok (.iconst 1, 1) := by decide +kernel
theorem dX11_knot_24 : decode cX11_knot 24 = .ok (.isub, 1) := by decide +kernel
theorem dX11_knot_25 : decode cX11_knot 25 = .ok (.iaload, 1) := by decide +kernel
theorem dX11_knot_26 : decode cX11_knot 26 = .ok (.if_icmp .le 26, 3) := by decide +kernel
theorem dX11_knot_29 : decode cX11_knot 29 = .ok (.iload_n 2, 1) := by decide +kernel
theorem dX11_knot_30 : decode cX11_knot 30 = .ok (.sipush (-10000), 3) := by decide +kernel
theorem dX11_knot_33 : decode cX11_knot 33 = .ok (.if_icmp .lt 19, 3) := by decide +kernel
theorem dX11_knot_36 : decode cX11_knot 36 = .ok (.iload_n 2, 1) := by decide +kernel
theorem dX11_knot_37 : decode cX11_knot 37 = .ok (.sipush 10000, 3) := by decide +kernel
theorem dX11_knot_40 : decode cX11_knot 40 = .ok (.if_icmp .gt 12, 3) := by decide +kernel
theorem dX11_knot_43 : decode cX11_knot 43 = .ok (.aload_n 0, 1) := by decide +kernel
theorem dX11_knot_44 : decode cX11_knot 44 = .ok (.getfield 111, 3) := by decide +kernel
theorem dX11_knot_47 : decode cX11_knot 47 = .ok (.bipush 32, 2) := by decide +kernel
theorem dX11_knot_49 : decode cX11_knot 49 = .ok (.if_icmp .ne 6, 3) := by decide +kernel
theorem dX11_knot_52 : decode cX11_knot 52 = .ok (.bipush (-2), 2) := by decide +kernel
theorem dX11_knot_54 : decode cX11_knot 54 = .ok (.ireturn, 1) := by decide +kernel
theorem dX11_knot_55 : decode cX11_knot 55 = .ok (.aload_n 0, 1) := by decide +kernel
theorem dX11_knot_56 : decode cX11_knot 56 = .ok (.getfield 32, 3) := by decide +kernel
theorem dX11_knot_59 : decode cX11_knot 59 = .ok (.aload_n 0, 1) := by decide +kernel
theorem dX11_knot_60 : decode cX11_knot 60 = .ok (.getfield 111, 3) := by decide +kernel
theorem dX11_knot_63 : decode cX11_knot 63 = .ok (.iload_n 1, 1) := by decide +kernel
theorem dX11_knot_64 : decode cX11_knot 64 = .ok (.iastore, 1) := by decide +kernel
theorem dX11_knot_65 : decode cX11_knot 65 = .ok (.aload_n 0, 1) := by decide +kernel
theorem dX11_knot_66 : decode cX11_knot 66 = .ok (.getfield 35, 3) := by decide +kernel
theorem dX11_knot_69 : decode cX11_knot 69 = .ok (.aload_n 0, 1) := by decide +kernel
theorem dX11_knot_70 : decode cX11_knot 70 = .ok (.getfield 111, 3) := by decide +kernel
theorem dX11_knot_73 : decode cX11_knot 73 = .ok (.iload_n 2, 1) := by decide +kernel
theorem dX11_knot_74 : decode cX11_knot 74 = .ok (.iastore, 1) := by decide +kernel
theorem dX11_knot_75 : decode cX11_knot 75 = .ok (.aload_n 0, 1) := by decide +kernel
theorem dX11_knot_76 : decode cX11_knot 76 = .ok (.dup, 1) := by decide +kernel
theorem dX11_knot_77 : decode cX11_knot 77 = .ok (.getfield 111, 3) := by decide +kernel
theorem dX11_knot_80 : decode cX11_knot 80 = .ok (.iconst 1, 1) := by decide +kernel
theorem dX11_knot_81 : decode cX11_knot 81 = .ok (.iadd, 1) := by decide +kernel
theorem dX11_knot_82 : decode cX11_knot 82 = .ok (.putfield 111, 3) := by decide +kernel
theorem dX11_knot_85 : decode cX11_knot 85 = .ok (.aload_n 0, 1) := by decide +kernel
theorem dX11_knot_86 : decode cX11_knot 86 = .ok (.getfield 111, 3) := by decide +kernel
theorem dX11_knot_89 : decode cX11_knot 89 = .ok (.ireturn, 1) := by decide +kernel
theorem dX11_hush_0 : decode cX11_hush 0 = .ok (.aload_n 0, 1) := by decide +kernel
theorem dX11_hush_1 : decode cX11_hush 1 = .ok (.getfield 111, 3) := by decide +kernel
theorem dX11_hush_4 : decode cX11_hush 4 = .ok (.istore_n 1, 1) := by decide +kernel
theorem dX11_hush_5 : decode cX11_hush 5 = .ok (.aload_n 0, 1) := by decide +kernel
theorem dX11_hush_6 : decode cX11_hush 6 = .ok (.iconst 0, 1) := by decide +kernel
theorem dX11_hush_7 : decode cX11_hush 7 = .ok (.putfield 111, 3) := by decide +kernel
theorem dX11_hush_10 : decode cX11_hush 10 = .ok (.iload_n 1, 1) := by decide +kernel
theorem dX11_hush_11 : decode cX11_hush 11 = .ok (.ireturn, 1) := by decide +kernel
theorem dX11_through_0 : decode cX11_through 0 = .ok (.iload_n 1, 1) := by decide +kernel
theorem dX11_through_1 : decode cX11_through 1 = .ok (.aload_n 0, 1) := by decide +kernel
theorem dX11_through_2 : decode cX11_through 2 = .ok (.getfield 32, 3) := by decide +kernel
theorem dX11_through_5 : decode cX11_through 5 = .ok (.iconst 0, 1) := by decide +kernel
theorem dX11_through_6 : decode cX11_through 6 = .ok (.iaload, 1) := by decide +kernel
theorem dX11_through_7 : decode cX11_through 7 = .ok (.if_icmp .gt 10, 3) := by decide +kernel
theorem dX11_through_10 : decode cX11_through 10 = .ok (.aload_n 0, 1) := by decide +kernel
theorem dX11_through_11 : decode cX11_through 11 = .ok (.getfield 35, 3) := by decide +kernel
theorem dX11_through_14 : decode cX11_through 14 = .ok (.iconst 0, 1) := by decide +kernel
theorem dX11_through_15 : decode cX11_through 15 = .ok (.iaload, 1) := by decide +kernel
theorem dX11_through_16 : decode cX11_through 16 = .ok (.ireturn, 1) := by decide +kernel
theorem dX11_through_17 : decode cX11_through 17 = .ok (.iload_n 1, 1) := by decide +kernel
theorem dX11_through_18 : decode cX11_through 18 = .ok (.aload_n 0, 1) := by decide +kernel
theorem dX11_through_19 : decode cX11_through 19 = .ok (.getfield 32, 3) := by decide +kernel
theorem dX11_through_22 : decode cX11_through 22 = .ok (.aload_n 0, 1) := by decide +kernel
theorem dX11_through_23 : decode cX11_through 23 = .ok (.getfield 111, 3) := by decide +kernel
theorem dX11_through_26 : decode cX11_through 26 = .ok (.iconst 1, 1) := by decide +kernel
theorem dX11_through_27 : decode cX11_through 27 = .ok (.isub, 1) := by decide +kernel
theorem dX11_through_28 : decode cX11_through 28 = .ok (.iaload, 1) := by decide +kernel
theorem dX11_through_29 : decode cX11_through 29 = .ok (.if_icmp .lt 15, 3) := by decide +kernel
theorem dX11_through_32 : decode cX11_through 32 = .ok (.aload_n 0, 1) := by decide +kernel
theorem dX11_through_33 : decode cX11_through 33 = .ok (.getfield 35, 3) := by decide +kernel
theorem dX11_through_36 : decode cX11_through 36 = .ok (.aload_n 0, 1) := by decide +kernel
theorem dX11_through_37 : decode cX11_through 37 = .ok (.getfield 111, 3) := by decide +kernel
theorem dX11_through_40 : decode cX11_through 40 = .ok (.iconst 1, 1) := by decide +kernel
theorem dX11_through_41 : decode cX11_through 41 = .ok (.isub, 1) := by decide +kernel
theorem dX11_through_42 : decode cX11_through 42 = .ok (.iaload, 1) := by decide +kernel
theorem dX11_through_43 : decode cX11_through 43 = .ok (.ireturn, 1) := by decide +kernel
theorem dX11_through_44 : decode cX11_through 44 = .ok (.iconst 0, 1) := by decide +kernel
theorem dX11_through_45 : decode cX11_through 45 = .ok (.istore_n 2, 1) := by decide +kernel
theorem dX11_through_46 : decode cX11_through 46 = .ok (.aload_n 0, 1) := by decide +kernel
theorem dX11_through_47 : decode cX11_through 47 = .ok (.getfield 32, 3) := by decide +kernel
theorem dX11_through_50 : decode cX11_through 50 = .ok (.iload_n 2, 1) := by decide +kernel
theorem dX11_through_51 : decode cX11_through 51 = .ok (.iconst 1, 1) := by decide +kernel
theorem dX11_through_52 : decode cX11_through 52 = .ok (.iadd, 1) := by decide +kernel
theorem dX11_through_53 : decode cX11_through 53 = .ok (.iaload, 1) := by decide +kernel
theorem dX11_through_54 : decode cX11_through 54 = .ok (.iload_n 1, 1) := by decide +kernel
theorem dX11_through_55 : decode cX11_through 55 = .ok (.if_icmp .ge 9, 3) := by decide +kernel
theorem dX11_through_58 : decode cX11_through 58 = .ok (.iinc 2 1, 3) := by decide +kernel
theorem dX11_through_61 : decode cX11_through 61 = .ok (.goto (-15), 3) := by decide +kernel
theorem dX11_through_64 : decode cX11_through 64 = .ok (.aload_n 0, 1) := by decide +kernel
theorem dX11_through_65 : decode cX11_through 65 = .ok (.getfield 32, 3) := by decide +kernel
theorem dX11_through_68 : decode cX11_through 68 = .ok (.iload_n 2, 1) := by decide +kernel
theorem dX11_through_69 : decode cX11_through 69 = .ok (.iconst 1, 1) := by decide +kernel
theorem dX11_through_70 : decode cX11_through 70 = .ok (.iadd, 1) := by decide +kernel
theorem dX11_through_71 : decode cX11_through 71 = .ok (.iaload, 1) := by decide +kernel
theorem dX11_through_72 : decode cX11_through 72 = .ok (.aload_n 0, 1) := by decide +kernel
theorem dX11_through_73 : decode cX11_through 73 = .ok (.getfield 32, 3) := by decide +kernel
theorem dX11_through_76 : decode cX11_through 76 = .ok (.iload_n 2, 1) := by decide +kernel
theorem dX11_through_77 : decode cX11_through 77 = .ok (.iaload, 1) := by decide +kernel
theorem dX11_through_78 : decode cX11_through 78 = .ok (.isub, 1) := by decide +kernel
theorem dX11_through_79 : decode cX11_through 79 = .ok (.i2l, 1) := by decide +kernel
theorem dX11_through_80 : decode cX11_through 80 = .ok (.lstore_n 3, 1) := by decide +kernel
theorem dX11_through_81 : decode cX11_through 81 = .ok (.aload_n 0, 1) := by decide +kernel
theorem dX11_through_82 : decode cX11_through 82 = .ok (.getfield 35, 3) := by decide +kernel
theorem dX11_through_85 : decode cX11_through 85 = .ok (.iload_n 2, 1) := by decide +kernel
theorem dX11_through_86 : decode cX11_through 86 = .ok (.iaload, 1) := by decide +kernel
theorem dX11_through_87 : decode cX11_through 87 = .ok (.i2l, 1) := by decide +kernel
theorem dX11_through_88 : decode cX11_through 88 = .ok (.lload_n 3, 1) := by decide +kernel
theorem dX11_through_89 : decode cX11_through 89 = .ok (.lmul, 1) := by decide +kernel
theorem dX11_through_90 : decode cX11_through 90 = .ok (.aload_n 0, 1) := by decide +kernel
theorem dX11_through_91 : decode cX11_through 91 = .ok (.getfield 35, 3) := by decide +kernel
theorem dX11_through_94 : decode cX11_through 94 = .ok (.iload_n 2, 1) := by decide +kernel
theorem dX11_through_95 : decode cX11_through 95 = .ok (.iconst 1, 1) := by decide +kernel
theorem dX11_through_96 : decode cX11_through 96 = .ok (.iadd, 1) := by decide +kernel
theorem dX11_through_97 : decode cX11_through 97 = .ok (.iaload, 1) := by decide +kernel
theorem dX11_through_98 : decode cX11_through 98 = .ok (.aload_n 0, 1) := by decide +kernel
theorem dX11_through_99 : decode cX11_through 99 = .ok (.getfield 35, 3) := by decide +kernel
theorem dX11_through_102 : decode cX11_through 102 = .ok (.iload_n 2, 1) := by decide +kernel
theorem dX11_through_103 : decode cX11_through 103 = .ok (.iaload, 1) := by decide +kernel
theorem dX11_through_104 : decode cX11_through 104 = .ok (.isub, 1) := by decide +kernel
theorem dX11_through_105 : decode cX11_through 105 = .ok (.i2l, 1) := by decide +kernel
theorem dX11_through_106 : decode cX11_through 106 = .ok (.iload_n 1, 1) := by decide +kernel
theorem dX11_through_107 : decode cX11_through 107 = .ok (.aload_n 0, 1) := by decide +kernel
theorem dX11_through_108 : decode cX11_through 108 = .ok (.getfield 32, 3) := by decide +kernel
theorem dX11_through_111 : decode cX11_through 111 = .ok (.iload_n 2, 1) := by decide +kernel
theorem dX11_through_112 : decode cX11_through 112 = .ok (.iaload, 1) := by decide +kernel
theorem dX11_through_113 : decode cX11_through 113 = .ok (.isub, 1) := by decide +kernel
theorem dX11_through_114 : decode cX11_through 114 = .ok (.i2l, 1) := by decide +kernel
theorem dX11_through_115 : decode cX11_through 115 = .ok (.lmul, 1) := by decide +kernel
theorem dX11_through_116 : decode cX11_through 116 = .ok (.ladd, 1) := by decide +kernel
theorem dX11_through_117 : decode cX11_through 117 = .ok (.lload_n 3, 1) := by decide +kernel
theorem dX11_through_118 : decode cX11_through 118 = .ok (.invokestatic 104, 3) := by decide +kernel
theorem dX11_through_121 : decode cX11_through 121 = .ok (.l2i, 1) := by decide +kernel
theorem dX11_through_122 : decode cX11_through 122 = .ok (.ireturn, 1) := by decide +kernel
theorem dX11_pieces_0 : decode cX11_pieces 0 = .ok (.aload_n 0, 1) := by decide +kernel
theorem dX11_pieces_1 : decode cX11_pieces 1 = .ok (.getfield 111, 3) := by decide +kernel
theorem dX11_pieces_4 : decode cX11_pieces 4 = .ok (.ifCond .eq 12, 3) := by decide +kernel
theorem dX11_pieces_7 : decode cX11_pieces 7 = .ok (.aload_n 0, 1) := by decide +kernel
theorem dX11_pieces_8 : decode cX11_pieces 8 = .ok (.getfield 85, 3) := by decide +kernel
theorem dX11_pieces_11 : decode cX11_pieces 11 = .ok (.bipush 60, 2) := by decide +kernel
theorem dX11_pieces_13 : decode cX11_pieces 13 = .ok (.if_icmp .ne 6, 3) := by decide +kernel
theorem dX11_pieces_16 : decode cX11_pieces 16 = .ok (.bipush (-2), 2) := by decide +kernel
theorem dX11_pieces_18 : decode cX11_pieces 18 = .ok (.ireturn, 1) := by decide +kernel
theorem dX11_pieces_19 : decode cX11_pieces 19 = .ok (.aload_n 0, 1) := by decide +kernel
theorem dX11_pieces_20 : decode cX11_pieces 20 = .ok (.iconst 1, 1) := by decide +kernel
theorem dX11_pieces_21 : decode cX11_pieces 21 = .ok (.iconst 1, 1) := by decide +kernel
theorem dX11_pieces_22 : decode cX11_pieces 22 = .ok (.invokevirtual 100, 3) := by decide +kernel
theorem dX11_pieces_25 : decode cX11_pieces 25 = .ok (.istore_n 1, 1) := by decide +kernel
theorem dX11_pieces_26 : decode cX11_pieces 26 = .ok (.iconst 0, 1) := by decide +kernel
theorem dX11_pieces_27 : decode cX11_pieces 27 = .ok (.istore_n 2, 1) := by decide +kernel
theorem dX11_pieces_28 : decode cX11_pieces 28 = .ok (.iload_n 2, 1) := by decide +kernel
theorem dX11_pieces_29 : decode cX11_pieces 29 = .ok (.sipush 4096, 3) := by decide +kernel
theorem dX11_pieces_32 : decode cX11_pieces 32 = .ok (.if_icmp .ge 26, 3) := by decide +kernel
theorem dX11_pieces_35 : decode cX11_pieces 35 = .ok (.aload_n 0, 1) := by decide +kernel
theorem dX11_pieces_36 : decode cX11_pieces 36 = .ok (.getfield 29, 3) := by decide +kernel
theorem dX11_pieces_39 : decode cX11_pieces 39 = .ok (.sipush 4096, 3) := by decide +kernel
theorem dX11_pieces_42 : decode cX11_pieces 42 = .ok (.iload_n 1, 1) := by decide +kernel
theorem dX11_pieces_43 : decode cX11_pieces 43 = .ok (.imul, 1) := by decide +kernel
theorem dX11_pieces_44 : decode cX11_pieces 44 = .ok (.iload_n 2, 1) := by decide +kernel
theorem dX11_pieces_45 : decode cX11_pieces 45 = .ok (.iadd, 1) := by decide +kernel
theorem dX11_pieces_46 : decode cX11_pieces 46 = .ok (.aload_n 0, 1) := by decide +kernel
theorem dX11_pieces_47 : decode cX11_pieces 47 = .ok (.iload_n 2, 1) := by decide +kernel
theorem dX11_pieces_48 : decode cX11_pieces 48 = .ok (.invokevirtual 114, 3) := by decide +kernel
theorem dX11_pieces_51 : decode cX11_pieces 51 = .ok (.iastore, 1) := by decide +kernel
theorem dX11_pieces_52 : decode cX11_pieces 52 = .ok (.iinc 2 1, 3) := by decide +kernel
theorem dX11_pieces_55 : decode cX11_pieces 55 = .ok (.goto (-27), 3) := by decide +kernel
theorem dX11_pieces_58 : decode cX11_pieces 58 = .ok (.aload_n 0, 1) := by decide +kernel
theorem dX11_pieces_59 : decode cX11_pieces 59 = .ok (.iconst 0, 1) := by decide +kernel
theorem dX11_pieces_60 : decode cX11_pieces 60 = .ok (.putfield 111, 3) := by decide +kernel
theorem dX11_pieces_63 : decode cX11_pieces 63 = .ok (.iload_n 1, 1) := by decide +kernel
theorem dX11_pieces_64 : decode cX11_pieces 64 = .ok (.ireturn, 1) := by decide +kernel
theorem dX11_gather_0 : decode cX11_gather 0 = .ok (.iload_n 1, 1) := by decide +kernel
theorem dX11_gather_1 : decode cX11_gather 1 = .ok (.invokestatic 89, 3) := by decide +kernel
theorem dX11_gather_4 : decode cX11_gather 4 = .ok (.ifCond .ne 6, 3) := by decide +kernel
theorem dX11_gather_7 : decode cX11_gather 7 = .ok (.bipush (-2), 2) := by decide +kernel
theorem dX11_gather_9 : decode cX11_gather 9 = .ok (.ireturn, 1) := by decide +kernel
theorem dX11_gather_10 : decode cX11_gather 10 = .ok (.aload_n 0, 1) := by decide +kernel
theorem dX11_gather_11 : decode cX11_gather 11 = .ok (.iconst 0, 1) := by decide +kernel
theorem dX11_gather_12 : decode cX11_gather 12 = .ok (.putfield 111, 3) := by decide +kernel
theorem dX11_gather_15 : decode cX11_gather 15 = .ok (.iconst 0, 1) := by decide +kernel
theorem dX11_gather_16 : decode cX11_gather 16 = .ok (.istore_n 2, 1) := by decide +kernel
theorem dX11_gather_17 : decode cX11_gather 17 = .ok (.iload_n 2, 1) := by decide +kernel
theorem dX11_gather_18 : decode cX11_gather 18 = .ok (.sipush 4096, 3) := by decide +kernel
theorem dX11_gather_21 : decode cX11_gather 21 = .ok (.if_icmp .ge 148, 3) := by decide +kernel
theorem dX11_gather_24 : decode cX11_gather 24 = .ok (.lconst 0, 1) := by decide +kernel
theorem dX11_gather_25 : decode cX11_gather 25 = .ok (.lstore_n 3, 1) := by decide +kernel
theorem dX11_gather_26 : decode cX11_gather 26 = .ok (.lconst 0, 1) := by decide +kernel
theorem dX11_gather_27 : decode cX11_gather 27 = .ok (.lstore 5, 2) := by decide +kernel
theorem dX11_gather_29 : decode cX11_gather 29 = .ok (.iconst 0, 1) := by decide +kernel
theorem dX11_gather_30 : decode cX11_gather 30 = .ok (.istore 7, 2) := by decide +kernel
theorem dX11_gather_32 : decode cX11_gather 32 = .ok (.iload 7, 2) := by decide +kernel
theorem dX11_gather_34 : decode cX11_gather 34 = .ok (.aload_n 0, 1) := by decide +kernel
theorem dX11_gather_35 : decode cX11_gather 35 = .ok (.getfield 9, 3) := by decide +kernel
theorem dX11_gather_38 : decode cX11_gather 38 = .ok (.iload_n 1, 1) := by decide +kernel
theorem dX11_gather_39 : decode cX11_gather 39 = .ok (.iaload, 1) := by decide +kernel
theorem dX11_gather_40 : decode cX11_gather 40 = .ok (.if_icmp .ge 80, 3) := by decide +kernel
theorem dX11_gather_43 : decode cX11_gather 43 = .ok (.bipush 24, 2) := by decide +kernel
theorem dX11_gather_45 : decode cX11_gather 45 = .ok (.iload_n 1, 1) := by decide +kernel
theorem dX11_gather_46 : decode cX11_gather 46 = .ok (.imul, 1) := by decide +kernel
theorem dX11_gather_47 : decode cX11_gather 47 = .ok (.iload 7, 2) := by decide +kernel
theorem dX11_gather_49 : decode cX11_gather 49 = .ok (.iadd, 1) := by decide +kernel
theorem dX11_gather_50 : decode cX11_gather 50 = .ok (.istore 8, 2) := by decide +kernel
theorem dX11_gather_52 : decode cX11_gather 52 = .ok (.lload_n 3, 1) := by decide +kernel
theorem dX11_gather_53 : decode cX11_gather 53 = .ok (.aload_n 0, 1) := by decide +kernel
theorem dX11_gather_54 : decode cX11_gather 54 = .ok (.getfield 13, 3) := by decide +kernel
theorem dX11_gather_57 : decode cX11_gather 57 = .ok (.iload 8, 2) := by decide +kernel
theorem dX11_gather_59 : decode cX11_gather 59 = .ok (.iaload, 1) := by decide +kernel
theorem dX11_gather_60 : decode cX11_gather 60 = .ok (.iload_n 2, 1) := by decide +kernel
theorem dX11_gather_61 : decode cX11_gather 61 = .ok (.if_icmp .ne 22, 3) := by decide +kernel
theorem dX11_gather_64 : decode cX11_gather 64 = .ok (.aload_n 0, 1) := by decide +kernel
theorem dX11_gather_65 : decode cX11_gather 65 = .ok (.getfield 19, 3) := by decide +kernel
theorem dX11_gather_68 : decode cX11_gather 68 = .ok (.iload 8, 2) := by decide +kernel
theorem dX11_gather_70 : decode cX11_gather 70 = .ok (.iaload, 1) := by decide +kernel
theorem dX11_gather_71 : decode cX11_gather 71 = .ok (.aload_n 0, 1) := by decide +kernel
theorem dX11_gather_72 : decode cX11_gather 72 = .ok (.getfield 16, 3) := by decide +kernel
theorem dX11_gather_75 : decode cX11_gather 75 = .ok (.iload 8, 2) := by decide +kernel
theorem dX11_gather_77 : decode cX11_gather 77 = .ok (.iaload, 1) := by decide +kernel
theorem dX11_gather_78 : decode cX11_gather 78 = .ok (.imul, 1) := by decide +kernel
theorem dX11_gather_79 : decode cX11_gather 79 = .ok (.i2l, 1) := by decide +kernel
theorem dX11_gather_80 : decode cX11_gather 80 = .ok (.goto 4, 3) := by decide +kernel
theorem dX11_gather_83 : decode cX11_gather 83 = .ok (.lconst 0, 1) := by decide +kernel
theorem dX11_gather_84 : decode cX11_gather 84 = .ok (.ladd, 1) := by decide +kernel
theorem dX11_gather_85 : decode cX11_gather 85 = .ok (.lstore_n 3, 1) := by decide +kernel
theorem dX11_gather_86 : decode cX11_gather 86 = .ok (.lload 5, 2) := by decide +kernel
theorem dX11_gather_88 : decode cX11_gather 88 = .ok (.aload_n 0, 1) := by decide +kernel
theorem dX11_gather_89 : decode cX11_gather 89 = .ok (.getfield 13, 3) := by decide +kernel
theorem dX11_gather_92 : decode cX11_gather 92 = .ok (.iload 8, 2) := by decide +kernel
theorem dX11_gather_94 : decode cX11_gather 94 = .ok (.iaload, 1) := by decide +kernel
theorem dX11_gather_95 : decode cX11_gather 95 = .ok (.iload_n 2, 1) := by decide +kernel
theorem dX11_gather_96 : decode cX11_gather 96 = .ok (.if_icmp .ne 14, 3) := by decide +kernel
theorem dX11_gather_99 : decode cX11_gather 99 = .ok (.aload_n 0, 1) := by decide +kernel
theorem dX11_gather_100 : decode cX11_gather 100 = .ok (.getfield 19, 3) := by decide +kernel
theorem dX11_gather_103 : decode cX11_gather 103 = .ok (.iload 8, 2) := by decide +kernel
theorem dX11_gather_105 : decode cX11_gather 105 = .ok (.iaload, 1) := by decide +kernel
theorem dX11_gather_106 : decode cX11_gather 106 = .ok (.i2l, 1) := by decide +kernel
theorem dX11_gather_107 : decode cX11_gather 107 = .ok (.goto 4, 3) := by decide +kernel
theorem dX11_gather_110 : decode cX11_gather 110 = .ok (.lconst 0, 1) := by decide +kernel
theorem dX11_gather_111 : decode cX11_gather 111 = .ok (.ladd, 1) := by decide +kernel
theorem dX11_gather_112 : decode cX11_gather 112 = .ok (.lstore 5, 2) := by decide +kernel
theorem dX11_gather_114 : decode cX11_gather 114 = .ok (.iinc 7 1, 3) := by decide +kernel
theorem dX11_gather_117 : decode cX11_gather 117 = .ok (.goto (-85), 3) := by decide +kernel
theorem dX11_gather_120 : decode cX11_gather 120 = .ok (.lload 5, 2) := by decide +kernel
theorem dX11_gather_122 : decode cX11_gather 122 = .ok (.lconst 0, 1) := by decide +kernel
theorem dX11_gather_123 : decode cX11_gather 123 = .ok (.lcmp, 1) := by decide +kernel
theorem dX11_gather_124 : decode cX11_gather 124 = .ok (.ifCond .le 39, 3) := by decide +kernel
theorem dX11_gather_127 : decode cX11_gather 127 = .ok (.aload_n 0, 1) := by decide +kernel
theorem dX11_gather_128 : decode cX11_gather 128 = .ok (.getfield 32, 3) := by decide +kernel
theorem dX11_gather_131 : decode cX11_gather 131 = .ok (.aload_n 0, 1) := by decide +kernel
theorem dX11_gather_132 : decode cX11_gather 132 = .ok (.getfield 111, 3) := by decide +kernel
theorem dX11_gather_135 : decode cX11_gather 135 = .ok (.iload_n 2, 1) := by decide +kernel
theorem dX11_gather_136 : decode cX11_gather 136 = .ok (.iastore, 1) := by decide +kernel
theorem dX11_gather_137 : decode cX11_gather 137 = .ok (.aload_n 0, 1) := by decide +kernel
theorem dX11_gather_138 : decode cX11_gather 138 = .ok (.getfield 35, 3) := by decide +kernel
theorem dX11_gather_141 : decode cX11_gather 141 = .ok (.aload_n 0, 1) := by decide +kernel
theorem dX11_gather_142 : decode cX11_gather 142 = .ok (.getfield 111, 3) := by decide +kernel
theorem dX11_gather_145 : decode cX11_gather 145 = .ok (.lload_n 3, 1) := by decide +kernel
theorem dX11_gather_146 : decode cX11_gather 146 = .ok (.lload 5, 2) := by decide +kernel
theorem dX11_gather_148 : decode cX11_gather 148 = .ok (.invokestatic 104, 3) := by decide +kernel
theorem dX11_gather_151 : decode cX11_gather 151 = .ok (.l2i, 1) := by decide +kernel
theorem dX11_gather_152 : decode cX11_gather 152 = .ok (.iastore, 1) := by decide +kernel
theorem dX11_gather_153 : decode cX11_gather 153 = .ok (.aload_n 0, 1) := by decide +kernel
theorem dX11_gather_154 : decode cX11_gather 154 = .ok (.dup, 1) := by decide +kernel
theorem dX11_gather_155 : decode cX11_gather 155 = .ok (.getfield 111, 3) := by decide +kernel
theorem dX11_gather_158 : decode cX11_gather 158 = .ok (.iconst 1, 1) := by decide +kernel
theorem dX11_gather_159 : decode cX11_gather 159 = .ok (.iadd, 1) := by decide +kernel
theorem dX11_gather_160 : decode cX11_gather 160 = .ok (.putfield 111, 3) := by decide +kernel
theorem dX11_gather_163 : decode cX11_gather 163 = .ok (.iinc 2 1, 3) := by decide +kernel
theorem dX11_gather_166 : decode cX11_gather 166 = .ok (.goto (-149), 3) := by decide +kernel
theorem dX11_gather_169 : decode cX11_gather 169 = .ok (.aload_n 0, 1) := by decide +kernel
theorem dX11_gather_170 : decode cX11_gather 170 = .ok (.getfield 111, 3) := by decide +kernel
theorem dX11_gather_173 : decode cX11_gather 173 = .ok (.ireturn, 1) := by decide +kernel
theorem dX11_mayWork_0 : decode cX11_mayWork 0 = .ok (.iload_n 1, 1) := by decide +kernel
theorem dX11_mayWork_1 : decode cX11_mayWork 1 = .ok (.sipush 500, 3) := by decide +kernel
theorem dX11_mayWork_4 : decode cX11_mayWork 4 = .ok (.if_icmp .gt 16, 3) := by decide +kernel
theorem dX11_mayWork_7 : decode cX11_mayWork 7 = .ok (.aload_n 0, 1) := by decide +kernel
theorem dX11_mayWork_8 : decode cX11_mayWork 8 = .ok (.getfield 85, 3) := by decide +kernel
theorem dX11_mayWork_11 : decode cX11_mayWork 11 = .ok (.bipush 60, 2) := by decide +kernel
theorem dX11_mayWork_13 : decode cX11_mayWork 13 = .ok (.if_icmp .ge 7, 3) := by decide +kernel
theorem dX11_mayWork_16 : decode cX11_mayWork 16 = .ok (.iconst 1, 1) := by decide +kernel
theorem dX11_mayWork_17 : decode cX11_mayWork 17 = .ok (.goto 4, 3) := by decide +kernel
theorem dX11_mayWork_20 : decode cX11_mayWork 20 = .ok (.iconst 0, 1) := by decide +kernel
theorem dX11_mayWork_21 : decode cX11_mayWork 21 = .ok (.ireturn, 1) := by decide +kernel
theorem dX11_of_0 : decode cX11_of 0 = .ok (.aload_n 0, 1) := by decide +kernel
theorem dX11_of_1 : decode cX11_of 1 = .ok (.getfield 29, 3) := by decide +kernel
theorem dX11_of_4 : decode cX11_of 4 = .ok (.sipush 4096, 3) := by decide +kernel
theorem dX11_of_7 : decode cX11_of 7 = .ok (.iload_n 1, 1) := by decide +kernel
theorem dX11_of_8 : decode cX11_of 8 = .ok (.imul, 1) := by decide +kernel
theorem dX11_of_9 : decode cX11_of 9 = .ok (.iload_n 2, 1) := by decide +kernel
theorem dX11_of_10 : decode cX11_of 10 = .ok (.iadd, 1) := by decide +kernel
theorem dX11_of_11 : decode cX11_of 11 = .ok (.iaload, 1) := by decide +kernel
theorem dX11_of_12 : decode cX11_of 12 = .ok (.ireturn, 1) := by decide +kernel
theorem dX11_clamp_0 : decode cX11_clamp 0 = .ok (.aload_n 0, 1) := by decide +kernel
theorem dX11_clamp_1 : decode cX11_clamp 1 = .ok (.iload_n 1, 1) := by decide +kernel
theorem dX11_clamp_2 : decode cX11_clamp 2 = .ok (.invokevirtual 118, 3) := by decide +kernel
theorem dX11_clamp_5 : decode cX11_clamp 5 = .ok (.ifCond .eq 37, 3) := by decide +kernel
theorem dX11_clamp_8 : decode cX11_clamp 8 = .ok (.iload_n 2, 1) := by decide +kernel
theorem dX11_clamp_9 : decode cX11_clamp 9 = .ok (.iload_n 3, 1) := by decide +kernel
theorem dX11_clamp_10 : decode cX11_clamp 10 = .ok (.if_icmp .gt 32, 3) := by decide +kernel
theorem dX11_clamp_13 : decode cX11_clamp 13 = .ok (.iload_n 2, 1) := by decide +kernel
theorem dX11_clamp_14 : decode cX11_clamp 14 = .ok (.invokestatic 121, 3) := by decide +kernel
theorem dX11_clamp_17 : decode cX11_clamp 17 = .ok (.ifCond .eq 25, 3) := by decide +kernel
theorem dX11_clamp_20 : decode cX11_clamp 20 = .ok (.iload_n 3, 1) := by decide +kernel
theorem dX11_clamp_21 : decode cX11_clamp 21 = .ok (.invokestatic 121, 3) := by decide +kernel
theorem dX11_clamp_24 : decode cX11_clamp 24 = .ok (.ifCond .eq 18, 3) := by decide +kernel
theorem dX11_clamp_27 : decode cX11_clamp 27 = .ok (.aload_n 0, 1) := by decide +kernel
theorem dX11_clamp_28 : decode cX11_clamp 28 = .ok (.aload_n 0, 1) := by decide +kernel
theorem dX11_clamp_29 : decode cX11_clamp 29 = .ok (.getfield 25, 3) := by decide +kernel
theorem dX11_clamp_32 : decode cX11_clamp 32 = .ok (.iload_n 1, 1) := by decide +kernel
theorem dX11_clamp_33 : decode cX11_clamp 33 = .ok (.iaload, 1) := by decide +kernel
theorem dX11_clamp_34 : decode cX11_clamp 34 = .ok (.iconst 1, 1) := by decide +kernel
theorem dX11_clamp_35 : decode cX11_clamp 35 = .ok (.iadd, 1) := by decide +kernel
theorem dX11_clamp_36 : decode cX11_clamp 36 = .ok (.invokevirtual 124, 3) := by decide +kernel
theorem dX11_clamp_39 : decode cX11_clamp 39 = .ok (.ifCond .ne 6, 3) := by decide +kernel
theorem dX11_clamp_42 : decode cX11_clamp 42 = .ok (.bipush (-2), 2) := by decide +kernel
theorem dX11_clamp_44 : decode cX11_clamp 44 = .ok (.ireturn, 1) := by decide +kernel
theorem dX11_clamp_45 : decode cX11_clamp 45 = .ok (.aload_n 0, 1) := by decide +kernel
theorem dX11_clamp_46 : decode cX11_clamp 46 = .ok (.iconst 2, 1) := by decide +kernel
theorem dX11_clamp_47 : decode cX11_clamp 47 = .ok (.aload_n 0, 1) := by decide +kernel
theorem dX11_clamp_48 : decode cX11_clamp 48 = .ok (.getfield 25, 3) := by decide +kernel
theorem dX11_clamp_51 : decode cX11_clamp 51 = .ok (.iload_n 1, 1) := by decide +kernel
theorem dX11_clamp_52 : decode cX11_clamp 52 = .ok (.iaload, 1) := by decide +kernel
theorem dX11_clamp_53 : decode cX11_clamp 53 = .ok (.iconst 1, 1) := by decide +kernel
theorem dX11_clamp_54 : decode cX11_clamp 54 = .ok (.iadd, 1) := by decide +kernel
theorem dX11_clamp_55 : decode cX11_clamp 55 = .ok (.invokevirtual 100, 3) := by decide +kernel
theorem dX11_clamp_58 : decode cX11_clamp 58 = .ok (.istore 4, 2) := by decide +kernel
theorem dX11_clamp_60 : decode cX11_clamp 60 = .ok (.iconst 0, 1) := by decide +kernel
theorem dX11_clamp_61 : decode cX11_clamp 61 = .ok (.istore 5, 2) := by decide +kernel
theorem dX11_clamp_63 : decode cX11_clamp 63 = .ok (.iload 5, 2) := by decide +kernel
theorem dX11_clamp_65 : decode cX11_clamp 65 = .ok (.sipush 4096, 3) := by decide +kernel
theorem dX11_clamp_68 : decode cX11_clamp 68 = .ok (.if_icmp .ge 60, 3) := by decide +kernel
theorem dX11_clamp_71 : decode cX11_clamp 71 = .ok (.aload_n 0, 1) := by decide +kernel
theorem dX11_clamp_72 : decode cX11_clamp 72 = .ok (.getfield 29, 3) := by decide +kernel
theorem dX11_clamp_75 : decode cX11_clamp 75 = .ok (.sipush 4096, 3) := by decide +kernel
theorem dX11_clamp_78 : decode cX11_clamp 78 = .ok (.iload 4, 2) := by decide +kernel
theorem dX11_clamp_80 : decode cX11_clamp 80 = .ok (.imul, 1) := by decide +kernel
theorem dX11_clamp_81 : decode cX11_clamp 81 = .ok (.iload 5, 2) := by decide +kernel
theorem dX11_clamp_83 : decode cX11_clamp 83 = .ok (.iadd, 1) := by decide +kernel
theorem dX11_clamp_84 : decode cX11_clamp 84 = .ok (.aload_n 0, 1) := by decide +kernel
theorem dX11_clamp_85 : decode cX11_clamp 85 = .ok (.iload_n 1, 1) := by decide +kernel
theorem dX11_clamp_86 : decode cX11_clamp 86 = .ok (.iload 5, 2) := by decide +kernel
theorem dX11_clamp_88 : decode cX11_clamp 88 = .ok (.invokevirtual 127, 3) := by decide +kernel
theorem dX11_clamp_91 : decode cX11_clamp 91 = .ok (.iload_n 2, 1) := by decide +kernel
theorem dX11_clamp_92 : decode cX11_clamp 92 = .ok (.if_icmp .ge 7, 3) := by decide +kernel
theorem dX11_clamp_95 : decode cX11_clamp 95 = .ok (.iload_n 2, 1) := by decide +kernel
theorem dX11_clamp_96 : decode cX11_clamp 96 = .ok (.goto 25, 3) := by decide +kernel
theorem dX11_clamp_99 : decode cX11_clamp 99 = .ok (.aload_n 0, 1) := by decide +kernel
theorem dX11_clamp_100 : decode cX11_clamp 100 = .ok (.iload_n 1, 1) := by decide +kernel
theorem dX11_clamp_101 : decode cX11_clamp 101 = .ok (.iload 5, 2) := by decide +kernel
theorem dX11_clamp_103 : decode cX11_clamp 103 = .ok (.invokevirtual 127, 3) := by decide +kernel
theorem dX11_clamp_106 : decode cX11_clamp 106 = .ok (.iload_n 3, 1) := by decide +kernel
theorem dX11_clamp_107 : decode cX11_clamp 107 = .ok (.if_icmp .le 7, 3) := by decide +kernel
theorem dX11_clamp_110 : decode cX11_clamp 110 = .ok (.iload_n 3, 1) := by decide +kernel
theorem dX11_clamp_111 : decode cX11_clamp 111 = .ok (.goto 10, 3) := by decide +kernel
theorem dX11_clamp_114 : decode cX11_clamp 114 = .ok (.aload_n 0, 1) := by decide +kernel
theorem dX11_clamp_115 : decode cX11_clamp 115 = .ok (.iload_n 1, 1) := by decide +kernel
theorem dX11_clamp_116 : decode cX11_clamp 116 = .ok (.iload 5, 2) := by decide +kernel
theorem dX11_clamp_118 : decode cX11_clamp 118 = .ok (.invokevirtual 127, 3) := by decide +kernel
theorem dX11_clamp_121 : decode cX11_clamp 121 = .ok (.iastore, 1) := by decide +kernel
theorem dX11_clamp_122 : decode cX11_clamp 122 = .ok (.iinc 5 1, 3) := by decide +kernel
theorem dX11_clamp_125 : decode cX11_clamp 125 = .ok (.goto (-62), 3) := by decide +kernel
theorem dX11_clamp_128 : decode cX11_clamp 128 = .ok (.iload 4, 2) := by decide +kernel
theorem dX11_clamp_130 : decode cX11_clamp 130 = .ok (.ireturn, 1) := by decide +kernel
theorem dX11_dead_0 : decode cX11_dead 0 = .ok (.aload_n 0, 1) := by decide +kernel
theorem dX11_dead_1 : decode cX11_dead 1 = .ok (.iload_n 1, 1) := by decide +kernel
theorem dX11_dead_2 : decode cX11_dead 2 = .ok (.invokevirtual 118, 3) := by decide +kernel
theorem dX11_dead_5 : decode cX11_dead 5 = .ok (.ifCond .eq 45, 3) := by decide +kernel
theorem dX11_dead_8 : decode cX11_dead 8 = .ok (.iload_n 2, 1) := by decide +kernel
theorem dX11_dead_9 : decode cX11_dead 9 = .ok (.iload_n 3, 1) := by decide +kernel
theorem dX11_dead_10 : decode cX11_dead 10 = .ok (.if_icmp .gt 40, 3) := by decide +kernel
theorem dX11_dead_13 : decode cX11_dead 13 = .ok (.iload_n 2, 1) := by decide +kernel
theorem dX11_dead_14 : decode cX11_dead 14 = .ok (.invokestatic 121, 3) := by decide +kernel
theorem dX11_dead_17 : decode cX11_dead 17 = .ok (.ifCond .eq 33, 3) := by decide +kernel
theorem dX11_dead_20 : decode cX11_dead 20 = .ok (.iload_n 3, 1) := by decide +kernel
theorem dX11_dead_21 : decode cX11_dead 21 = .ok (.invokestatic 121, 3) := by decide +kernel
theorem dX11_dead_24 : decode cX11_dead 24 = .ok (.ifCond .eq 26, 3) := by decide +kernel
theorem dX11_dead_27 : decode cX11_dead 27 = .ok (.iload 4, 2) := by decide +kernel
theorem dX11_dead_29 : decode cX11_dead 29 = .ok (.invokestatic 121, 3) := by decide +kernel
theorem dX11_dead_32 : decode cX11_dead 32 = .ok (.ifCond .eq 18, 3) := by decide +kernel
theorem dX11_dead_35 : decode cX11_dead 35 = .ok (.aload_n 0, 1) := by decide +kernel
theorem dX11_dead_36 : decode cX11_dead 36 = .ok (.aload_n 0, 1) := by decide +kernel
theorem dX11_dead_37 : decode cX11_dead 37 = .ok (.getfield 25, 3) := by decide +kernel
theorem dX11_dead_40 : decode cX11_dead 40 = .ok (.iload_n 1, 1) := by decide +kernel
theorem dX11_dead_41 : decode cX11_dead 41 = .ok (.iaload, 1) := by decide +kernel
theorem dX11_dead_42 : decode cX11_dead 42 = .ok (.iconst 1, 1) := by decide +kernel
theorem dX11_dead_43 : decode cX11_dead 43 = .ok (.iadd, 1) := by decide +kernel
theorem dX11_dead_44 : decode cX11_dead 44 = .ok (.invokevirtual 124, 3) := by decide +kernel
theorem dX11_dead_47 : decode cX11_dead 47 = .ok (.ifCond .ne 6, 3) := by decide +kernel
theorem dX11_dead_50 : decode cX11_dead 50 = .ok (.bipush (-2), 2) := by decide +kernel
theorem dX11_dead_52 : decode cX11_dead 52 = .ok (.ireturn, 1) := by decide +kernel
theorem dX11_dead_53 : decode cX11_dead 53 = .ok (.aload_n 0, 1) := by decide +kernel
theorem dX11_dead_54 : decode cX11_dead 54 = .ok (.iconst 3, 1) := by decide +kernel
theorem dX11_dead_55 : decode cX11_dead 55 = .ok (.aload_n 0, 1) := by decide +kernel
theorem dX11_dead_56 : decode cX11_dead 56 = .ok (.getfield 25, 3) := by decide +kernel
theorem dX11_dead_59 : decode cX11_dead 59 = .ok (.iload_n 1, 1) := by decide +kernel
theorem dX11_dead_60 : decode cX11_dead 60 = .ok (.iaload, 1) := by decide +kernel
theorem dX11_dead_61 : decode cX11_dead 61 = .ok (.iconst 1, 1) := by decide +kernel
theorem dX11_dead_62 : decode cX11_dead 62 = .ok (.iadd, 1) := by decide +kernel
theorem dX11_dead_63 : decode cX11_dead 63 = .ok (.invokevirtual 100, 3) := by decide +kernel
theorem dX11_dead_66 : decode cX11_dead 66 = .ok (.istore 5, 2) := by decide +kernel
theorem dX11_dead_68 : decode cX11_dead 68 = .ok (.iconst 0, 1) := by decide +kernel
theorem dX11_dead_69 : decode cX11_dead 69 = .ok (.istore 6, 2) := by decide +kernel
theorem dX11_dead_71 : decode cX11_dead 71 = .ok (.iload 6, 2) := by decide +kernel
theorem dX11_dead_73 : decode cX11_dead 73 = .ok (.sipush 4096, 3) := by decide +kernel
theorem dX11_dead_76 : decode cX11_dead 76 = .ok (.if_icmp .ge 57, 3) := by decide +kernel
theorem dX11_dead_79 : decode cX11_dead 79 = .ok (.aload_n 0, 1) := by decide +kernel
theorem dX11_dead_80 : decode cX11_dead 80 = .ok (.getfield 29, 3) := by decide +kernel
theorem dX11_dead_83 : decode cX11_dead 83 = .ok (.sipush 4096, 3) := by decide +kernel
theorem dX11_dead_86 : decode cX11_dead 86 = .ok (.iload 5, 2) := by decide +kernel
theorem dX11_dead_88 : decode cX11_dead 88 = .ok (.imul, 1) := by decide +kernel
theorem dX11_dead_89 : decode cX11_dead 89 = .ok (.iload 6, 2) := by decide +kernel
theorem dX11_dead_91 : decode cX11_dead 91 = .ok (.iadd, 1) := by decide +kernel
theorem dX11_dead_92 : decode cX11_dead 92 = .ok (.aload_n 0, 1) := by decide +kernel
theorem dX11_dead_93 : decode cX11_dead 93 = .ok (.iload_n 1, 1) := by decide +kernel
theorem dX11_dead_94 : decode cX11_dead 94 = .ok (.iload 6, 2) := by decide +kernel
theorem dX11_dead_96 : decode cX11_dead 96 = .ok (.invokevirtual 127, 3) := by decide +kernel
theorem dX11_dead_99 : decode cX11_dead 99 = .ok (.iload_n 2, 1) := by decide +kernel
theorem dX11_dead_100 : decode cX11_dead 100 = .ok (.if_icmp .lt 19, 3) := by decide +kernel
theorem dX11_dead_103 : decode cX11_dead 103 = .ok (.aload_n 0, 1) := by decide +kernel
theorem dX11_dead_104 : decode cX11_dead 104 = .ok (.iload_n 1, 1) := by decide +kernel
theorem dX11_dead_105 : decode cX11_dead 105 = .ok (.iload 6, 2) := by decide +kernel
theorem dX11_dead_107 : decode cX11_dead 107 = .ok (.invokevirtual 127, 3) := by decide +kernel
theorem dX11_dead_110 : decode cX11_dead 110 = .ok (.iload_n 3, 1) := by decide +kernel
theorem dX11_dead_111 : decode cX11_dead 111 = .ok (.if_icmp .gt 8, 3) := by decide +kernel
theorem dX11_dead_114 : decode cX11_dead 114 = .ok (.iload 4, 2) := by decide +kernel
theorem dX11_dead_116 : decode cX11_dead 116 = .ok (.goto 10, 3) := by decide +kernel
theorem dX11_dead_119 : decode cX11_dead 119 = .ok (.aload_n 0, 1) := by decide +kernel
theorem dX11_dead_120 : decode cX11_dead 120 = .ok (.iload_n 1, 1) := by decide +kernel
theorem dX11_dead_121 : decode cX11_dead 121 = .ok (.iload 6, 2) := by decide +kernel
theorem dX11_dead_123 : decode cX11_dead 123 = .ok (.invokevirtual 127, 3) := by decide +kernel
theorem dX11_dead_126 : decode cX11_dead 126 = .ok (.iastore, 1) := by decide +kernel
theorem dX11_dead_127 : decode cX11_dead 127 = .ok (.iinc 6 1, 3) := by decide +kernel
theorem dX11_dead_130 : decode cX11_dead 130 = .ok (.goto (-59), 3) := by decide +kernel
theorem dX11_dead_133 : decode cX11_dead 133 = .ok (.iload 5, 2) := by decide +kernel
theorem dX11_dead_135 : decode cX11_dead 135 = .ok (.ireturn, 1) := by decide +kernel
theorem dX11_chain_0 : decode cX11_chain 0 = .ok (.aload_n 0, 1) := by decide +kernel
theorem dX11_chain_1 : decode cX11_chain 1 = .ok (.iload_n 1, 1) := by decide +kernel
theorem dX11_chain_2 : decode cX11_chain 2 = .ok (.invokevirtual 118, 3) := by decide +kernel
theorem dX11_chain_5 : decode cX11_chain 5 = .ok (.ifCond .eq 33, 3) := by decide +kernel
theorem dX11_chain_8 : decode cX11_chain 8 = .ok (.aload_n 0, 1) := by decide +kernel
theorem dX11_chain_9 : decode cX11_chain 9 = .ok (.iload_n 2, 1) := by decide +kernel
theorem dX11_chain_10 : decode cX11_chain 10 = .ok (.invokevirtual 118, 3) := by decide +kernel
theorem dX11_chain_13 : decode cX11_chain 13 = .ok (.ifCond .eq 25, 3) := by decide +kernel
theorem dX11_chain_16 : decode cX11_chain 16 = .ok (.aload_n 0, 1) := by decide +kernel
theorem dX11_chain_17 : decode cX11_chain 17 = .ok (.aload_n 0, 1) := by decide +kernel
theorem dX11_chain_18 : decode cX11_chain 18 = .ok (.getfield 25, 3) := by decide +kernel
theorem dX11_chain_21 : decode cX11_chain 21 = .ok (.iload_n 1, 1) := by decide +kernel
theorem dX11_chain_22 : decode cX11_chain 22 = .ok (.iaload, 1) := by decide +kernel
theorem dX11_chain_23 : decode cX11_chain 23 = .ok (.aload_n 0, 1) := by decide +kernel
theorem dX11_chain_24 : decode cX11_chain 24 = .ok (.getfield 25, 3) := by decide +kernel
theorem dX11_chain_27 : decode cX11_chain 27 = .ok (.iload_n 2, 1) := by decide +kernel
theorem dX11_chain_28 : decode cX11_chain 28 = .ok (.iaload, 1) := by decide +kernel
theorem dX11_chain_29 : decode cX11_chain 29 = .ok (.iadd, 1) := by decide +kernel
theorem dX11_chain_30 : decode cX11_chain 30 = .ok (.iconst 1, 1) := by decide +kernel
theorem dX11_chain_31 : decode cX11_chain 31 = .ok (.iadd, 1) := by decide +kernel
theorem dX11_chain_32 : decode cX11_chain 32 = .ok (.invokevirtual 124, 3) := by decide +kernel
theorem dX11_chain_35 : decode cX11_chain 35 = .ok (.ifCond .ne 6, 3) := by decide +kernel
theorem dX11_chain_38 : decode cX11_chain 38 = .ok (.bipush (-2), 2) := by decide +kernel
theorem dX11_chain_40 : decode cX11_chain 40 = .ok (.ireturn, 1) := by decide +kernel
theorem dX11_chain_41 : decode cX11_chain 41 = .ok (.aload_n 0, 1) := by decide +kernel
theorem dX11_chain_42 : decode cX11_chain 42 = .ok (.iconst 4, 1) := by decide +kernel
theorem dX11_chain_43 : decode cX11_chain 43 = .ok (.aload_n 0, 1) := by decide +kernel
theorem dX11_chain_44 : decode cX11_chain 44 = .ok (.getfield 25, 3) := by decide +kernel
theorem dX11_chain_47 : decode cX11_chain 47 = .ok (.iload_n 1, 1) := by decide +kernel
theorem dX11_chain_48 : decode cX11_chain 48 = .ok (.iaload, 1) := by decide +kernel
theorem dX11_chain_49 : decode cX11_chain 49 = .ok (.aload_n 0, 1) := by decide +kernel
theorem dX11_chain_50 : decode cX11_chain 50 = .ok (.getfield 25, 3) := by decide +kernel
theorem dX11_chain_53 : decode cX11_chain 53 = .ok (.iload_n 2, 1) := by decide +kernel
theorem dX11_chain_54 : decode cX11_chain 54 = .ok (.iaload, 1) := by decide +kernel
theorem dX11_chain_55 : decode cX11_chain 55 = .ok (.iadd, 1) := by decide +kernel
theorem dX11_chain_56 : decode cX11_chain 56 = .ok (.iconst 1, 1) := by decide +kernel
theorem dX11_chain_57 : decode cX11_chain 57 = .ok (.iadd, 1) := by decide +kernel
theorem dX11_chain_58 : decode cX11_chain 58 = .ok (.invokevirtual 100, 3) := by decide +kernel
theorem dX11_chain_61 : decode cX11_chain 61 = .ok (.istore_n 3, 1) := by decide +kernel
theorem dX11_chain_62 : decode cX11_chain 62 = .ok (.iconst 0, 1) := by decide +kernel
theorem dX11_chain_63 : decode cX11_chain 63 = .ok (.istore 4, 2) := by decide +kernel
theorem dX11_chain_65 : decode cX11_chain 65 = .ok (.iload 4, 2) := by decide +kernel
theorem dX11_chain_67 : decode cX11_chain 67 = .ok (.sipush 4096, 3) := by decide +kernel
theorem dX11_chain_70 : decode cX11_chain 70 = .ok (.if_icmp .ge 61, 3) := by decide +kernel
theorem dX11_chain_73 : decode cX11_chain 73 = .ok (.aload_n 0, 1) := by decide +kernel
theorem dX11_chain_74 : decode cX11_chain 74 = .ok (.iload_n 2, 1) := by decide +kernel
theorem dX11_chain_75 : decode cX11_chain 75 = .ok (.iload 4, 2) := by decide +kernel
theorem dX11_chain_77 : decode cX11_chain 77 = .ok (.invokevirtual 127, 3) := by decide +kernel
theorem dX11_chain_80 : decode cX11_chain 80 = .ok (.istore 5, 2) := by decide +kernel
theorem dX11_chain_82 : decode cX11_chain 82 = .ok (.aload_n 0, 1) := by decide +kernel
theorem dX11_chain_83 : decode cX11_chain 83 = .ok (.getfield 29, 3) := by decide +kernel
theorem dX11_chain_86 : decode cX11_chain 86 = .ok (.sipush 4096, 3) := by decide +kernel
theorem dX11_chain_89 : decode cX11_chain 89 = .ok (.iload_n 3, 1) := by decide +kernel
theorem dX11_chain_90 : decode cX11_chain 90 = .ok (.imul, 1) := by decide +kernel
theorem dX11_chain_91 : decode cX11_chain 91 = .ok (.iload 4, 2) := by decide +kernel
theorem dX11_chain_93 : decode cX11_chain 93 = .ok (.iadd, 1) := by decide +kernel
theorem dX11_chain_94 : decode cX11_chain 94 = .ok (.aload_n 0, 1) := by decide +kernel
theorem dX11_chain_95 : decode cX11_chain 95 = .ok (.iload_n 1, 1) := by decide +kernel
theorem dX11_chain_96 : decode cX11_chain 96 = .ok (.iload 5, 2) := by decide +kernel
theorem dX11_chain_98 : decode cX11_chain 98 = .ok (.ifCond .ge 7, 3) := by decide +kernel
theorem dX11_chain_101 : decode cX11_chain 101 = .ok (.iconst 0, 1) := by decide +kernel
theorem dX11_chain_102 : decode cX11_chain 102 = .ok (.goto 19, 3) := by decide +kernel
theorem dX11_chain_105 : decode cX11_chain 105 = .ok (.iload 5, 2) := by decide +kernel
theorem dX11_chain_107 : decode cX11_chain 107 = .ok (.sipush 4096, 3) := by decide +kernel
theorem dX11_chain_110 : decode cX11_chain 110 = .ok (.if_icmp .lt 9, 3) := by decide +kernel
theorem dX11_chain_113 : decode cX11_chain 113 = .ok (.sipush 4095, 3) := by decide +kernel
theorem dX11_chain_116 : decode cX11_chain 116 = .ok (.goto 5, 3) := by decide +kernel
theorem dX11_chain_119 : decode cX11_chain 119 = .ok (.iload 5, 2) := by decide +kernel
theorem dX11_chain_121 : decode cX11_chain 121 = .ok (.invokevirtual 127, 3) := by decide +kernel
theorem dX11_chain_124 : decode cX11_chain 124 = .ok (.iastore, 1) := by decide +kernel
theorem dX11_chain_125 : decode cX11_chain 125 = .ok (.iinc 4 1, 3) := by decide +kernel
theorem dX11_chain_128 : decode cX11_chain 128 = .ok (.goto (-63), 3) := by decide +kernel
theorem dX11_chain_131 : decode cX11_chain 131 = .ok (.iload_n 3, 1) := by decide +kernel
theorem dX11_chain_132 : decode cX11_chain 132 = .ok (.ireturn, 1) := by decide +kernel
theorem dX11_gain_0 : decode cX11_gain 0 = .ok (.aload_n 0, 1) := by decide +kernel
theorem dX11_gain_1 : decode cX11_gain 1 = .ok (.iload_n 1, 1) := by decide +kernel
theorem dX11_gain_2 : decode cX11_gain 2 = .ok (.invokevirtual 118, 3) := by decide +kernel
theorem dX11_gain_5 : decode cX11_gain 5 = .ok (.ifCond .eq 52, 3) := by decide +kernel
theorem dX11_gain_8 : decode cX11_gain 8 = .ok (.iload_n 2, 1) := by decide +kernel
theorem dX11_gain_9 : decode cX11_gain 9 = .ok (.sipush (-1000), 3) := by decide +kernel
theorem dX11_gain_12 : decode cX11_gain 12 = .ok (.if_icmp .lt 45, 3) := by decide +kernel
theorem dX11_gain_15 : decode cX11_gain 15 = .ok (.iload_n 2, 1) := by decide +kernel
theorem dX11_gain_16 : decode cX11_gain 16 = .ok (.sipush 1000, 3) := by decide +kernel
theorem dX11_gain_19 : decode cX11_gain 19 = .ok (.if_icmp .gt 38, 3) := by decide +kernel
theorem dX11_gain_22 : decode cX11_gain 22 = .ok (.iload_n 3, 1) := by decide +kernel
theorem dX11_gain_23 : decode cX11_gain 23 = .ok (.iconst 1, 1) := by decide +kernel
theorem dX11_gain_24 : decode cX11_gain 24 = .ok (.if_icmp .lt 33, 3) := by decide +kernel
theorem dX11_gain_27 : decode cX11_gain 27 = .ok (.iload_n 3, 1) := by decide +kernel
theorem dX11_gain_28 : decode cX11_gain 28 = .ok (.sipush 1000, 3) := by decide +kernel
theorem dX11_gain_31 : decode cX11_gain 31 = .ok (.if_icmp .gt 26, 3) := by decide +kernel
theorem dX11_gain_34 : decode cX11_gain 34 = .ok (.iload 4, 2) := by decide +kernel
theorem dX11_gain_36 : decode cX11_gain 36 = .ok (.invokestatic 121, 3) := by decide +kernel
theorem dX11_gain_39 : decode cX11_gain 39 = .ok (.ifCond .eq 18, 3) := by decide +kernel
theorem dX11_gain_42 : decode cX11_gain 42 = .ok (.aload_n 0, 1) := by decide +kernel
theorem dX11_gain_43 : decode cX11_gain 43 = .ok (.aload_n 0, 1) := by decide +kernel
theorem dX11_gain_44 : decode cX11_gain 44 = .ok (.getfield 25, 3) := by decide +kernel
theorem dX11_gain_47 : decode cX11_gain 47 = .ok (.iload_n 1, 1) := by decide +kernel
theorem dX11_gain_48 : decode cX11_gain 48 = .ok (.iaload, 1) := by decide +kernel
theorem dX11_gain_49 : decode cX11_gain 49 = .ok (.iconst 1, 1) := by decide +kernel
theorem dX11_gain_50 : decode cX11_gain 50 = .ok (.iadd, 1) := by decide +kernel
theorem dX11_gain_51 : decode cX11_gain 51 = .ok (.invokevirtual 124, 3) := by decide +kernel
theorem dX11_gain_54 : decode cX11_gain 54 = .ok (.ifCond .ne 6, 3) := by decide +kernel
theorem dX11_gain_57 : decode cX11_gain 57 = .ok (.bipush (-2), 2) := by decide +kernel
theorem dX11_gain_59 : decode cX11_gain 59 = .ok (.ireturn, 1) := by decide +kernel
theorem dX11_gain_60 : decode cX11_gain 60 = .ok (.aload_n 0, 1) := by decide +kernel
theorem dX11_gain_61 : decode cX11_gain 61 = .ok (.iconst 5, 1) := by decide +kernel
theorem dX11_gain_62 : decode cX11_gain 62 = .ok (.aload_n 0, 1) := by decide +kernel
theorem dX11_gain_63 : decode cX11_gain 63 = .ok (.getfield 25, 3) := by decide +kernel
theorem dX11_gain_66 : decode cX11_gain 66 = .ok (.iload_n 1, 1) := by decide +kernel
theorem dX11_gain_67 : decode cX11_gain 67 = .ok (.iaload, 1) := by decide +kernel
theorem dX11_gain_68 : decode cX11_gain 68 = .ok (.iconst 1, 1) := by decide +kernel
theorem dX11_gain_69 : decode cX11_gain 69 = .ok (.iadd, 1) := by decide +kernel
theorem dX11_gain_70 : decode cX11_gain 70 = .ok (.invokevirtual 100, 3) := by decide +kernel
theorem dX11_gain_73 : decode cX11_gain 73 = .ok (.istore 5, 2) := by decide +kernel
theorem dX11_gain_75 : decode cX11_gain 75 = .ok (.iconst 0, 1) := by decide +kernel
theorem dX11_gain_76 : decode cX11_gain 76 = .ok (.istore 6, 2) := by decide +kernel
theorem dX11_gain_78 : decode cX11_gain 78 = .ok (.iload 6, 2) := by decide +kernel
theorem dX11_gain_80 : decode cX11_gain 80 = .ok (.sipush 4096, 3) := by decide +kernel
theorem dX11_gain_83 : decode cX11_gain 83 = .ok (.if_icmp .ge 46, 3) := by decide +kernel
theorem dX11_gain_86 : decode cX11_gain 86 = .ok (.aload_n 0, 1) := by decide +kernel
theorem dX11_gain_87 : decode cX11_gain 87 = .ok (.getfield 29, 3) := by decide +kernel
theorem dX11_gain_90 : decode cX11_gain 90 = .ok (.sipush 4096, 3) := by decide +kernel
theorem dX11_gain_93 : decode cX11_gain 93 = .ok (.iload 5, 2) := by decide +kernel
theorem dX11_gain_95 : decode cX11_gain 95 = .ok (.imul, 1) := by decide +kernel
theorem dX11_gain_96 : decode cX11_gain 96 = .ok (.iload 6, 2) := by decide +kernel
theorem dX11_gain_98 : decode cX11_gain 98 = .ok (.iadd, 1) := by decide +kernel
theorem dX11_gain_99 : decode cX11_gain 99 = .ok (.aload_n 0, 1) := by decide +kernel
theorem dX11_gain_100 : decode cX11_gain 100 = .ok (.iload_n 1, 1) := by decide +kernel
theorem dX11_gain_101 : decode cX11_gain 101 = .ok (.iload 6, 2) := by decide +kernel
theorem dX11_gain_103 : decode cX11_gain 103 = .ok (.invokevirtual 127, 3) := by decide +kernel
theorem dX11_gain_106 : decode cX11_gain 106 = .ok (.i2l, 1) := by decide +kernel
theorem dX11_gain_107 : decode cX11_gain 107 = .ok (.iload_n 2, 1) := by decide +kernel
theorem dX11_gain_108 : decode cX11_gain 108 = .ok (.i2l, 1) := by decide +kernel
theorem dX11_gain_109 : decode cX11_gain 109 = .ok (.lmul, 1) := by decide +kernel
theorem dX11_gain_110 : decode cX11_gain 110 = .ok (.iload_n 3, 1) := by decide +kernel
theorem dX11_gain_111 : decode cX11_gain 111 = .ok (.i2l, 1) := by decide +kernel
theorem dX11_gain_112 : decode cX11_gain 112 = .ok (.invokestatic 104, 3) := by decide +kernel
theorem dX11_gain_115 : decode cX11_gain 115 = .ok (.iload 4, 2) := by decide +kernel
theorem dX11_gain_117 : decode cX11_gain 117 = .ok (.i2l, 1) := by decide +kernel
theorem dX11_gain_118 : decode cX11_gain 118 = .ok (.ladd, 1) := by decide +kernel
theorem dX11_gain_119 : decode cX11_gain 119 = .ok (.invokestatic 107, 3) := by decide +kernel
theorem dX11_gain_122 : decode cX11_gain 122 = .ok (.iastore, 1) := by decide +kernel
theorem dX11_gain_123 : decode cX11_gain 123 = .ok (.iinc 6 1, 3) := by decide +kernel
theorem dX11_gain_126 : decode cX11_gain 126 = .ok (.goto (-48), 3) := by decide +kernel
theorem dX11_gain_129 : decode cX11_gain 129 = .ok (.iload 5, 2) := by decide +kernel
theorem dX11_gain_131 : decode cX11_gain 131 = .ok (.ireturn, 1) := by decide +kernel
theorem dX11_mirror_0 : decode cX11_mirror 0 = .ok (.aload_n 0, 1) := by decide +kernel
theorem dX11_mirror_1 : decode cX11_mirror 1 = .ok (.iload_n 1, 1) := by decide +kernel
theorem dX11_mirror_2 : decode cX11_mirror 2 = .ok (.invokevirtual 118, 3) := by decide +kernel
theorem dX11_mirror_5 : decode cX11_mirror 5 = .ok (.ifCond .eq 18, 3) := by decide +kernel
theorem dX11_mirror_8 : decode cX11_mirror 8 = .ok (.aload_n 0, 1) := by decide +kernel
theorem dX11_mirror_9 : decode cX11_mirror 9 = .ok (.aload_n 0, 1) := by decide +kernel
theorem dX11_mirror_10 : decode cX11_mirror 10 = .ok (.getfield 25, 3) := by decide +kernel
theorem dX11_mirror_13 : decode cX11_mirror 13 = .ok (.iload_n 1, 1) := by decide +kernel
theorem dX11_mirror_14 : decode cX11_mirror 14 = .ok (.iaload, 1) := by decide +kernel
theorem dX11_mirror_15 : decode cX11_mirror 15 = .ok (.iconst 1, 1) := by decide +kernel
theorem dX11_mirror_16 : decode cX11_mirror 16 = .ok (.iadd, 1) := by decide +kernel
theorem dX11_mirror_17 : decode cX11_mirror 17 = .ok (.invokevirtual 124, 3) := by decide +kernel
theorem dX11_mirror_20 : decode cX11_mirror 20 = .ok (.ifCond .ne 6, 3) := by decide +kernel
theorem dX11_mirror_23 : decode cX11_mirror 23 = .ok (.bipush (-2), 2) := by decide +kernel
theorem dX11_mirror_25 : decode cX11_mirror 25 = .ok (.ireturn, 1) := by decide +kernel
theorem dX11_mirror_26 : decode cX11_mirror 26 = .ok (.aload_n 0, 1) := by decide +kernel
theorem dX11_mirror_27 : decode cX11_mirror 27 = .ok (.bipush 6, 2) := by decide +kernel
theorem dX11_mirror_29 : decode cX11_mirror 29 = .ok (.aload_n 0, 1) := by decide +kernel
theorem dX11_mirror_30 : decode cX11_mirror 30 = .ok (.getfield 25, 3) := by decide +kernel
theorem dX11_mirror_33 : decode cX11_mirror 33 = .ok (.iload_n 1, 1) := by decide +kernel
theorem dX11_mirror_34 : decode cX11_mirror 34 = .ok (.iaload, 1) := by decide +kernel
theorem dX11_mirror_35 : decode cX11_mirror 35 = .ok (.iconst 1, 1) := by decide +kernel
theorem dX11_mirror_36 : decode cX11_mirror 36 = .ok (.iadd, 1) := by decide +kernel
theorem dX11_mirror_37 : decode cX11_mirror 37 = .ok (.invokevirtual 100, 3) := by decide +kernel
theorem dX11_mirror_40 : decode cX11_mirror 40 = .ok (.istore_n 2, 1) := by decide +kernel
theorem dX11_mirror_41 : decode cX11_mirror 41 = .ok (.iconst 0, 1) := by decide +kernel
theorem dX11_mirror_42 : decode cX11_mirror 42 = .ok (.istore_n 3, 1) := by decide +kernel
theorem dX11_mirror_43 : decode cX11_mirror 43 = .ok (.iload_n 3, 1) := by decide +kernel
theorem dX11_mirror_44 : decode cX11_mirror 44 = .ok (.sipush 4096, 3) := by decide +kernel
theorem dX11_mirror_47 : decode cX11_mirror 47 = .ok (.if_icmp .ge 31, 3) := by decide +kernel
theorem dX11_mirror_50 : decode cX11_mirror 50 = .ok (.aload_n 0, 1) := by decide +kernel
theorem dX11_mirror_51 : decode cX11_mirror 51 = .ok (.getfield 29, 3) := by decide +kernel
theorem dX11_mirror_54 : decode cX11_mirror 54 = .ok (.sipush 4096, 3) := by decide +kernel
theorem dX11_mirror_57 : decode cX11_mirror 57 = .ok (.iload_n 2, 1) := by decide +kernel
theorem dX11_mirror_58 : decode cX11_mirror 58 = .ok (.imul, 1) := by decide +kernel
theorem dX11_mirror_59 : decode cX11_mirror 59 = .ok (.iload_n 3, 1) := by decide +kernel
theorem dX11_mirror_60 : decode cX11_mirror 60 = .ok (.iadd, 1) := by decide +kernel
theorem dX11_mirror_61 : decode cX11_mirror 61 = .ok (.aload_n 0, 1) := by decide +kernel
theorem dX11_mirror_62 : decode cX11_mirror 62 = .ok (.iload_n 1, 1) := by decide +kernel
theorem dX11_mirror_63 : decode cX11_mirror 63 = .ok (.sipush 4095, 3) := by decide +kernel
theorem dX11_mirror_66 : decode cX11_mirror 66 = .ok (.iload_n 3, 1) := by decide +kernel
theorem dX11_mirror_67 : decode cX11_mirror 67 = .ok (.isub, 1) := by decide +kernel
theorem dX11_mirror_68 : decode cX11_mirror 68 = .ok (.invokevirtual 127, 3) := by decide +kernel
theorem dX11_mirror_71 : decode cX11_mirror 71 = .ok (.iastore, 1) := by decide +kernel
theorem dX11_mirror_72 : decode cX11_mirror 72 = .ok (.iinc 3 1, 3) := by decide +kernel
theorem dX11_mirror_75 : decode cX11_mirror 75 = .ok (.goto (-32), 3) := by decide +kernel
