theorem dX11_mirror_78 : decode cX11_mirror 78 = .ok (.iload_n 2, 1) := by decide +kernel
theorem dX11_mirror_79 : decode cX11_mirror 79 = .ok (.ireturn, 1) := by decide +kernel
theorem dX11_value_0 : decode cX11_value 0 = .ok (.aload_n 0, 1) := by decide +kernel
theorem dX11_value_1 : decode cX11_value 1 = .ok (.iload_n 1, 1) := by decide +kernel
theorem dX11_value_2 : decode cX11_value 2 = .ok (.invokevirtual 118, 3) := by decide +kernel
theorem dX11_value_5 : decode cX11_value 5 = .ok (.ifCond .eq 19, 3) := by decide +kernel
theorem dX11_value_8 : decode cX11_value 8 = .ok (.iload_n 2, 1) := by decide +kernel
theorem dX11_value_9 : decode cX11_value 9 = .ok (.invokestatic 93, 3) := by decide +kernel
theorem dX11_value_12 : decode cX11_value 12 = .ok (.ifCond .eq 12, 3) := by decide +kernel
theorem dX11_value_15 : decode cX11_value 15 = .ok (.aload_n 0, 1) := by decide +kernel
theorem dX11_value_16 : decode cX11_value 16 = .ok (.iload_n 1, 1) := by decide +kernel
theorem dX11_value_17 : decode cX11_value 17 = .ok (.iload_n 2, 1) := by decide +kernel
theorem dX11_value_18 : decode cX11_value 18 = .ok (.invokevirtual 127, 3) := by decide +kernel
theorem dX11_value_21 : decode cX11_value 21 = .ok (.goto 5, 3) := by decide +kernel
theorem dX11_value_24 : decode cX11_value 24 = .ok (.ldc 130, 2) := by decide +kernel
theorem dX11_value_26 : decode cX11_value 26 = .ok (.ireturn, 1) := by decide +kernel
theorem dX11_way_0 : decode cX11_way 0 = .ok (.iconst 0, 1) := by decide +kernel
theorem dX11_way_1 : decode cX11_way 1 = .ok (.istore_n 2, 1) := by decide +kernel
theorem dX11_way_2 : decode cX11_way 2 = .ok (.iconst 0, 1) := by decide +kernel
theorem dX11_way_3 : decode cX11_way 3 = .ok (.istore_n 3, 1) := by decide +kernel
theorem dX11_way_4 : decode cX11_way 4 = .ok (.iconst 1, 1) := by decide +kernel
theorem dX11_way_5 : decode cX11_way 5 = .ok (.istore 4, 2) := by decide +kernel
theorem dX11_way_7 : decode cX11_way 7 = .ok (.iload 4, 2) := by decide +kernel
theorem dX11_way_9 : decode cX11_way 9 = .ok (.sipush 4096, 3) := by decide +kernel
theorem dX11_way_12 : decode cX11_way 12 = .ok (.if_icmp .ge 63, 3) := by decide +kernel
theorem dX11_way_15 : decode cX11_way 15 = .ok (.iload_n 2, 1) := by decide +kernel
theorem dX11_way_16 : decode cX11_way 16 = .ok (.aload_n 0, 1) := by decide +kernel
theorem dX11_way_17 : decode cX11_way 17 = .ok (.iload_n 1, 1) := by decide +kernel
theorem dX11_way_18 : decode cX11_way 18 = .ok (.iload 4, 2) := by decide +kernel
theorem dX11_way_20 : decode cX11_way 20 = .ok (.invokevirtual 127, 3) := by decide +kernel
theorem dX11_way_23 : decode cX11_way 23 = .ok (.aload_n 0, 1) := by decide +kernel
theorem dX11_way_24 : decode cX11_way 24 = .ok (.iload_n 1, 1) := by decide +kernel
theorem dX11_way_25 : decode cX11_way 25 = .ok (.iload 4, 2) := by decide +kernel
theorem dX11_way_27 : decode cX11_way 27 = .ok (.iconst 1, 1) := by decide +kernel
theorem dX11_way_28 : decode cX11_way 28 = .ok (.isub, 1) := by decide +kernel
theorem dX11_way_29 : decode cX11_way 29 = .ok (.invokevirtual 127, 3) := by decide +kernel
theorem dX11_way_32 : decode cX11_way 32 = .ok (.if_icmp .le 7, 3) := by decide +kernel
theorem dX11_way_35 : decode cX11_way 35 = .ok (.iconst 1, 1) := by decide +kernel
theorem dX11_way_36 : decode cX11_way 36 = .ok (.goto 4, 3) := by decide +kernel
theorem dX11_way_39 : decode cX11_way 39 = .ok (.iconst 0, 1) := by decide +kernel
theorem dX11_way_40 : decode cX11_way 40 = .ok (.ior, 1) := by decide +kernel
theorem dX11_way_41 : decode cX11_way 41 = .ok (.istore_n 2, 1) := by decide +kernel
theorem dX11_way_42 : decode cX11_way 42 = .ok (.iload_n 3, 1) := by decide +kernel
theorem dX11_way_43 : decode cX11_way 43 = .ok (.aload_n 0, 1) := by decide +kernel
theorem dX11_way_44 : decode cX11_way 44 = .ok (.iload_n 1, 1) := by decide +kernel
theorem dX11_way_45 : decode cX11_way 45 = .ok (.iload 4, 2) := by decide +kernel
theorem dX11_way_47 : decode cX11_way 47 = .ok (.invokevirtual 127, 3) := by decide +kernel
theorem dX11_way_50 : decode cX11_way 50 = .ok (.aload_n 0, 1) := by decide +kernel
theorem dX11_way_51 : decode cX11_way 51 = .ok (.iload_n 1, 1) := by decide +kernel
theorem dX11_way_52 : decode cX11_way 52 = .ok (.iload 4, 2) := by decide +kernel
theorem dX11_way_54 : decode cX11_way 54 = .ok (.iconst 1, 1) := by decide +kernel
theorem dX11_way_55 : decode cX11_way 55 = .ok (.isub, 1) := by decide +kernel
theorem dX11_way_56 : decode cX11_way 56 = .ok (.invokevirtual 127, 3) := by decide +kernel
theorem dX11_way_59 : decode cX11_way 59 = .ok (.if_icmp .ge 7, 3) := by decide +kernel
theorem dX11_way_62 : decode cX11_way 62 = .ok (.iconst 1, 1) := by decide +kernel
theorem dX11_way_63 : decode cX11_way 63 = .ok (.goto 4, 3) := by decide +kernel
theorem dX11_way_66 : decode cX11_way 66 = .ok (.iconst 0, 1) := by decide +kernel
theorem dX11_way_67 : decode cX11_way 67 = .ok (.ior, 1) := by decide +kernel
theorem dX11_way_68 : decode cX11_way 68 = .ok (.istore_n 3, 1) := by decide +kernel
theorem dX11_way_69 : decode cX11_way 69 = .ok (.iinc 4 1, 3) := by decide +kernel
theorem dX11_way_72 : decode cX11_way 72 = .ok (.goto (-65), 3) := by decide +kernel
theorem dX11_way_75 : decode cX11_way 75 = .ok (.iload_n 2, 1) := by decide +kernel
theorem dX11_way_76 : decode cX11_way 76 = .ok (.ifCond .eq 11, 3) := by decide +kernel
theorem dX11_way_79 : decode cX11_way 79 = .ok (.iload_n 3, 1) := by decide +kernel
theorem dX11_way_80 : decode cX11_way 80 = .ok (.ifCond .eq 7, 3) := by decide +kernel
theorem dX11_way_83 : decode cX11_way 83 = .ok (.iconst 0, 1) := by decide +kernel
theorem dX11_way_84 : decode cX11_way 84 = .ok (.goto 20, 3) := by decide +kernel
theorem dX11_way_87 : decode cX11_way 87 = .ok (.iload_n 2, 1) := by decide +kernel
theorem dX11_way_88 : decode cX11_way 88 = .ok (.ifCond .eq 7, 3) := by decide +kernel
theorem dX11_way_91 : decode cX11_way 91 = .ok (.iconst 1, 1) := by decide +kernel
theorem dX11_way_92 : decode cX11_way 92 = .ok (.goto 12, 3) := by decide +kernel
theorem dX11_way_95 : decode cX11_way 95 = .ok (.iload_n 3, 1) := by decide +kernel
theorem dX11_way_96 : decode cX11_way 96 = .ok (.ifCond .eq 7, 3) := by decide +kernel
theorem dX11_way_99 : decode cX11_way 99 = .ok (.iconst (-1), 1) := by decide +kernel
theorem dX11_way_100 : decode cX11_way 100 = .ok (.goto 4, 3) := by decide +kernel
theorem dX11_way_103 : decode cX11_way 103 = .ok (.iconst 2, 1) := by decide +kernel
theorem dX11_way_104 : decode cX11_way 104 = .ok (.ireturn, 1) := by decide +kernel
theorem dX11_turning_0 : decode cX11_turning 0 = .ok (.iconst 0, 1) := by decide +kernel
theorem dX11_turning_1 : decode cX11_turning 1 = .ok (.istore_n 3, 1) := by decide +kernel
theorem dX11_turning_2 : decode cX11_turning 2 = .ok (.iconst 0, 1) := by decide +kernel
theorem dX11_turning_3 : decode cX11_turning 3 = .ok (.istore 4, 2) := by decide +kernel
theorem dX11_turning_5 : decode cX11_turning 5 = .ok (.iconst 1, 1) := by decide +kernel
theorem dX11_turning_6 : decode cX11_turning 6 = .ok (.istore 5, 2) := by decide +kernel
theorem dX11_turning_8 : decode cX11_turning 8 = .ok (.iload 5, 2) := by decide +kernel
theorem dX11_turning_10 : decode cX11_turning 10 = .ok (.sipush 4096, 3) := by decide +kernel
theorem dX11_turning_13 : decode cX11_turning 13 = .ok (.if_icmp .ge 94, 3) := by decide +kernel
theorem dX11_turning_16 : decode cX11_turning 16 = .ok (.aload_n 0, 1) := by decide +kernel
theorem dX11_turning_17 : decode cX11_turning 17 = .ok (.iload_n 1, 1) := by decide +kernel
theorem dX11_turning_18 : decode cX11_turning 18 = .ok (.iload 5, 2) := by decide +kernel
theorem dX11_turning_20 : decode cX11_turning 20 = .ok (.invokevirtual 127, 3) := by decide +kernel
theorem dX11_turning_23 : decode cX11_turning 23 = .ok (.aload_n 0, 1) := by decide +kernel
theorem dX11_turning_24 : decode cX11_turning 24 = .ok (.iload_n 1, 1) := by decide +kernel
theorem dX11_turning_25 : decode cX11_turning 25 = .ok (.iload 5, 2) := by decide +kernel
theorem dX11_turning_27 : decode cX11_turning 27 = .ok (.iconst 1, 1) := by decide +kernel
theorem dX11_turning_28 : decode cX11_turning 28 = .ok (.isub, 1) := by decide +kernel
theorem dX11_turning_29 : decode cX11_turning 29 = .ok (.invokevirtual 127, 3) := by decide +kernel
theorem dX11_turning_32 : decode cX11_turning 32 = .ok (.if_icmp .le 7, 3) := by decide +kernel
theorem dX11_turning_35 : decode cX11_turning 35 = .ok (.iconst 1, 1) := by decide +kernel
theorem dX11_turning_36 : decode cX11_turning 36 = .ok (.goto 27, 3) := by decide +kernel
theorem dX11_turning_39 : decode cX11_turning 39 = .ok (.aload_n 0, 1) := by decide +kernel
theorem dX11_turning_40 : decode cX11_turning 40 = .ok (.iload_n 1, 1) := by decide +kernel
theorem dX11_turning_41 : decode cX11_turning 41 = .ok (.iload 5, 2) := by decide +kernel
theorem dX11_turning_43 : decode cX11_turning 43 = .ok (.invokevirtual 127, 3) := by decide +kernel
theorem dX11_turning_46 : decode cX11_turning 46 = .ok (.aload_n 0, 1) := by decide +kernel
theorem dX11_turning_47 : decode cX11_turning 47 = .ok (.iload_n 1, 1) := by decide +kernel
theorem dX11_turning_48 : decode cX11_turning 48 = .ok (.iload 5, 2) := by decide +kernel
theorem dX11_turning_50 : decode cX11_turning 50 = .ok (.iconst 1, 1) := by decide +kernel
theorem dX11_turning_51 : decode cX11_turning 51 = .ok (.isub, 1) := by decide +kernel
theorem dX11_turning_52 : decode cX11_turning 52 = .ok (.invokevirtual 127, 3) := by decide +kernel
theorem dX11_turning_55 : decode cX11_turning 55 = .ok (.if_icmp .ge 7, 3) := by decide +kernel
theorem dX11_turning_58 : decode cX11_turning 58 = .ok (.iconst (-1), 1) := by decide +kernel
theorem dX11_turning_59 : decode cX11_turning 59 = .ok (.goto 4, 3) := by decide +kernel
theorem dX11_turning_62 : decode cX11_turning 62 = .ok (.iconst 0, 1) := by decide +kernel
theorem dX11_turning_63 : decode cX11_turning 63 = .ok (.istore 6, 2) := by decide +kernel
theorem dX11_turning_65 : decode cX11_turning 65 = .ok (.iload 6, 2) := by decide +kernel
theorem dX11_turning_67 : decode cX11_turning 67 = .ok (.ifCond .eq 22, 3) := by decide +kernel
theorem dX11_turning_70 : decode cX11_turning 70 = .ok (.iload_n 3, 1) := by decide +kernel
theorem dX11_turning_71 : decode cX11_turning 71 = .ok (.iload 6, 2) := by decide +kernel
theorem dX11_turning_73 : decode cX11_turning 73 = .ok (.ineg, 1) := by decide +kernel
theorem dX11_turning_74 : decode cX11_turning 74 = .ok (.if_icmp .ne 15, 3) := by decide +kernel
theorem dX11_turning_77 : decode cX11_turning 77 = .ok (.iload 4, 2) := by decide +kernel
theorem dX11_turning_79 : decode cX11_turning 79 = .ok (.iload_n 2, 1) := by decide +kernel
theorem dX11_turning_80 : decode cX11_turning 80 = .ok (.if_icmp .ne 6, 3) := by decide +kernel
theorem dX11_turning_83 : decode cX11_turning 83 = .ok (.iload 5, 2) := by decide +kernel
theorem dX11_turning_85 : decode cX11_turning 85 = .ok (.ireturn, 1) := by decide +kernel
theorem dX11_turning_86 : decode cX11_turning 86 = .ok (.iinc 4 1, 3) := by decide +kernel
theorem dX11_turning_89 : decode cX11_turning 89 = .ok (.iload 6, 2) := by decide +kernel
theorem dX11_turning_91 : decode cX11_turning 91 = .ok (.ifCond .ne 7, 3) := by decide +kernel
theorem dX11_turning_94 : decode cX11_turning 94 = .ok (.iload_n 3, 1) := by decide +kernel
theorem dX11_turning_95 : decode cX11_turning 95 = .ok (.goto 5, 3) := by decide +kernel
theorem dX11_turning_98 : decode cX11_turning 98 = .ok (.iload 6, 2) := by decide +kernel
theorem dX11_turning_100 : decode cX11_turning 100 = .ok (.istore_n 3, 1) := by decide +kernel
theorem dX11_turning_101 : decode cX11_turning 101 = .ok (.iinc 5 1, 3) := by decide +kernel
theorem dX11_turning_104 : decode cX11_turning 104 = .ok (.goto (-96), 3) := by decide +kernel
theorem dX11_turning_107 : decode cX11_turning 107 = .ok (.iload_n 2, 1) := by decide +kernel
theorem dX11_turning_108 : decode cX11_turning 108 = .ok (.ifCond .ge 10, 3) := by decide +kernel
theorem dX11_turning_111 : decode cX11_turning 111 = .ok (.iload 4, 2) := by decide +kernel
theorem dX11_turning_113 : decode cX11_turning 113 = .ok (.iconst 1, 1) := by decide +kernel
theorem dX11_turning_114 : decode cX11_turning 114 = .ok (.isub, 1) := by decide +kernel
theorem dX11_turning_115 : decode cX11_turning 115 = .ok (.goto 4, 3) := by decide +kernel
theorem dX11_turning_118 : decode cX11_turning 118 = .ok (.iconst (-1), 1) := by decide +kernel
theorem dX11_turning_119 : decode cX11_turning 119 = .ok (.ireturn, 1) := by decide +kernel
theorem dX11_end_0 : decode cX11_end 0 = .ok (.aload_n 0, 1) := by decide +kernel
theorem dX11_end_1 : decode cX11_end 1 = .ok (.iload_n 1, 1) := by decide +kernel
theorem dX11_end_2 : decode cX11_end 2 = .ok (.iconst 0, 1) := by decide +kernel
theorem dX11_end_3 : decode cX11_end 3 = .ok (.invokevirtual 127, 3) := by decide +kernel
theorem dX11_end_6 : decode cX11_end 6 = .ok (.istore_n 3, 1) := by decide +kernel
theorem dX11_end_7 : decode cX11_end 7 = .ok (.iconst 1, 1) := by decide +kernel
theorem dX11_end_8 : decode cX11_end 8 = .ok (.istore 4, 2) := by decide +kernel
theorem dX11_end_10 : decode cX11_end 10 = .ok (.iload 4, 2) := by decide +kernel
theorem dX11_end_12 : decode cX11_end 12 = .ok (.sipush 4096, 3) := by decide +kernel
theorem dX11_end_15 : decode cX11_end 15 = .ok (.if_icmp .ge 52, 3) := by decide +kernel
theorem dX11_end_18 : decode cX11_end 18 = .ok (.iload_n 2, 1) := by decide +kernel
theorem dX11_end_19 : decode cX11_end 19 = .ok (.aload_n 0, 1) := by decide +kernel
theorem dX11_end_20 : decode cX11_end 20 = .ok (.iload_n 1, 1) := by decide +kernel
theorem dX11_end_21 : decode cX11_end 21 = .ok (.iload 4, 2) := by decide +kernel
theorem dX11_end_23 : decode cX11_end 23 = .ok (.invokevirtual 127, 3) := by decide +kernel
theorem dX11_end_26 : decode cX11_end 26 = .ok (.iload_n 3, 1) := by decide +kernel
theorem dX11_end_27 : decode cX11_end 27 = .ok (.if_icmp .le 7, 3) := by decide +kernel
theorem dX11_end_30 : decode cX11_end 30 = .ok (.iconst 1, 1) := by decide +kernel
theorem dX11_end_31 : decode cX11_end 31 = .ok (.goto 4, 3) := by decide +kernel
theorem dX11_end_34 : decode cX11_end 34 = .ok (.iconst 0, 1) := by decide +kernel
theorem dX11_end_35 : decode cX11_end 35 = .ok (.if_icmp .ne 24, 3) := by decide +kernel
theorem dX11_end_38 : decode cX11_end 38 = .ok (.aload_n 0, 1) := by decide +kernel
theorem dX11_end_39 : decode cX11_end 39 = .ok (.iload_n 1, 1) := by decide +kernel
theorem dX11_end_40 : decode cX11_end 40 = .ok (.iload 4, 2) := by decide +kernel
theorem dX11_end_42 : decode cX11_end 42 = .ok (.invokevirtual 127, 3) := by decide +kernel
theorem dX11_end_45 : decode cX11_end 45 = .ok (.iload_n 3, 1) := by decide +kernel
theorem dX11_end_46 : decode cX11_end 46 = .ok (.if_icmp .eq 13, 3) := by decide +kernel
theorem dX11_end_49 : decode cX11_end 49 = .ok (.aload_n 0, 1) := by decide +kernel
theorem dX11_end_50 : decode cX11_end 50 = .ok (.iload_n 1, 1) := by decide +kernel
theorem dX11_end_51 : decode cX11_end 51 = .ok (.iload 4, 2) := by decide +kernel
theorem dX11_end_53 : decode cX11_end 53 = .ok (.invokevirtual 127, 3) := by decide +kernel
theorem dX11_end_56 : decode cX11_end 56 = .ok (.goto 4, 3) := by decide +kernel
theorem dX11_end_59 : decode cX11_end 59 = .ok (.iload_n 3, 1) := by decide +kernel
theorem dX11_end_60 : decode cX11_end 60 = .ok (.istore_n 3, 1) := by decide +kernel
theorem dX11_end_61 : decode cX11_end 61 = .ok (.iinc 4 1, 3) := by decide +kernel
theorem dX11_end_64 : decode cX11_end 64 = .ok (.goto (-54), 3) := by decide +kernel
theorem dX11_end_67 : decode cX11_end 67 = .ok (.iload_n 3, 1) := by decide +kernel
theorem dX11_end_68 : decode cX11_end 68 = .ok (.ireturn, 1) := by decide +kernel
theorem dX11_about_0 : decode cX11_about 0 = .ok (.aload_n 0, 1) := by decide +kernel
theorem dX11_about_1 : decode cX11_about 1 = .ok (.iload_n 1, 1) := by decide +kernel
theorem dX11_about_2 : decode cX11_about 2 = .ok (.invokevirtual 118, 3) := by decide +kernel
theorem dX11_about_5 : decode cX11_about 5 = .ok (.ifCond .ne 6, 3) := by decide +kernel
theorem dX11_about_8 : decode cX11_about 8 = .ok (.ldc 130, 2) := by decide +kernel
theorem dX11_about_10 : decode cX11_about 10 = .ok (.ireturn, 1) := by decide +kernel
theorem dX11_about_11 : decode cX11_about 11 = .ok (.iload_n 2, 1) := by decide +kernel
theorem dX11_about_12 : decode cX11_about 12 = .ok (.tableswitch 83 0 5 #[40, 47, 54, 60, 69, 76], 40) := by decide +kernel
theorem dX11_about_52 : decode cX11_about 52 = .ok (.aload_n 0, 1) := by decide +kernel
theorem dX11_about_53 : decode cX11_about 53 = .ok (.getfield 22, 3) := by decide +kernel
theorem dX11_about_56 : decode cX11_about 56 = .ok (.iload_n 1, 1) := by decide +kernel
theorem dX11_about_57 : decode cX11_about 57 = .ok (.iaload, 1) := by decide +kernel
theorem dX11_about_58 : decode cX11_about 58 = .ok (.ireturn, 1) := by decide +kernel
theorem dX11_about_59 : decode cX11_about 59 = .ok (.aload_n 0, 1) := by decide +kernel
theorem dX11_about_60 : decode cX11_about 60 = .ok (.getfield 25, 3) := by decide +kernel
theorem dX11_about_63 : decode cX11_about 63 = .ok (.iload_n 1, 1) := by decide +kernel
theorem dX11_about_64 : decode cX11_about 64 = .ok (.iaload, 1) := by decide +kernel
theorem dX11_about_65 : decode cX11_about 65 = .ok (.ireturn, 1) := by decide +kernel
theorem dX11_about_66 : decode cX11_about 66 = .ok (.aload_n 0, 1) := by decide +kernel
theorem dX11_about_67 : decode cX11_about 67 = .ok (.iload_n 1, 1) := by decide +kernel
theorem dX11_about_68 : decode cX11_about 68 = .ok (.invokevirtual 131, 3) := by decide +kernel
theorem dX11_about_71 : decode cX11_about 71 = .ok (.ireturn, 1) := by decide +kernel
theorem dX11_about_72 : decode cX11_about 72 = .ok (.aload_n 0, 1) := by decide +kernel
theorem dX11_about_73 : decode cX11_about 73 = .ok (.iload_n 1, 1) := by decide +kernel
theorem dX11_about_74 : decode cX11_about 74 = .ok (.iconst (-1), 1) := by decide +kernel
theorem dX11_about_75 : decode cX11_about 75 = .ok (.invokevirtual 134, 3) := by decide +kernel
theorem dX11_about_78 : decode cX11_about 78 = .ok (.iconst 1, 1) := by decide +kernel
theorem dX11_about_79 : decode cX11_about 79 = .ok (.iadd, 1) := by decide +kernel
theorem dX11_about_80 : decode cX11_about 80 = .ok (.ireturn, 1) := by decide +kernel
theorem dX11_about_81 : decode cX11_about 81 = .ok (.aload_n 0, 1) := by decide +kernel
theorem dX11_about_82 : decode cX11_about 82 = .ok (.iload_n 1, 1) := by decide +kernel
theorem dX11_about_83 : decode cX11_about 83 = .ok (.iconst 0, 1) := by decide +kernel
theorem dX11_about_84 : decode cX11_about 84 = .ok (.invokevirtual 137, 3) := by decide +kernel
theorem dX11_about_87 : decode cX11_about 87 = .ok (.ireturn, 1) := by decide +kernel
theorem dX11_about_88 : decode cX11_about 88 = .ok (.aload_n 0, 1) := by decide +kernel
theorem dX11_about_89 : decode cX11_about 89 = .ok (.iload_n 1, 1) := by decide +kernel
theorem dX11_about_90 : decode cX11_about 90 = .ok (.iconst 1, 1) := by decide +kernel
theorem dX11_about_91 : decode cX11_about 91 = .ok (.invokevirtual 137, 3) := by decide +kernel
theorem dX11_about_94 : decode cX11_about 94 = .ok (.ireturn, 1) := by decide +kernel
theorem dX11_about_95 : decode cX11_about 95 = .ok (.ldc 130, 2) := by decide +kernel
theorem dX11_about_97 : decode cX11_about 97 = .ok (.ireturn, 1) := by decide +kernel
theorem dX11_turn_0 : decode cX11_turn 0 = .ok (.aload_n 0, 1) := by decide +kernel
theorem dX11_turn_1 : decode cX11_turn 1 = .ok (.iload_n 1, 1) := by decide +kernel
theorem dX11_turn_2 : decode cX11_turn 2 = .ok (.invokevirtual 118, 3) := by decide +kernel
theorem dX11_turn_5 : decode cX11_turn 5 = .ok (.ifCond .ne 8, 3) := by decide +kernel
theorem dX11_turn_8 : decode cX11_turn 8 = .ok (.bipush (-2), 2) := by decide +kernel
theorem dX11_turn_10 : decode cX11_turn 10 = .ok (.goto 17, 3) := by decide +kernel
theorem dX11_turn_13 : decode cX11_turn 13 = .ok (.iload_n 2, 1) := by decide +kernel
theorem dX11_turn_14 : decode cX11_turn 14 = .ok (.ifCond .ge 7, 3) := by decide +kernel
theorem dX11_turn_17 : decode cX11_turn 17 = .ok (.iconst (-1), 1) := by decide +kernel
theorem dX11_turn_18 : decode cX11_turn 18 = .ok (.goto 9, 3) := by decide +kernel
theorem dX11_turn_21 : decode cX11_turn 21 = .ok (.aload_n 0, 1) := by decide +kernel
theorem dX11_turn_22 : decode cX11_turn 22 = .ok (.iload_n 1, 1) := by decide +kernel
theorem dX11_turn_23 : decode cX11_turn 23 = .ok (.iload_n 2, 1) := by decide +kernel
theorem dX11_turn_24 : decode cX11_turn 24 = .ok (.invokevirtual 134, 3) := by decide +kernel
theorem dX11_turn_27 : decode cX11_turn 27 = .ok (.ireturn, 1) := by decide +kernel
theorem dX11_inverse_0 : decode cX11_inverse 0 = .ok (.aload_n 0, 1) := by decide +kernel
theorem dX11_inverse_1 : decode cX11_inverse 1 = .ok (.iload_n 1, 1) := by decide +kernel
theorem dX11_inverse_2 : decode cX11_inverse 2 = .ok (.invokevirtual 118, 3) := by decide +kernel
theorem dX11_inverse_5 : decode cX11_inverse 5 = .ok (.ifCond .ne 6, 3) := by decide +kernel
theorem dX11_inverse_8 : decode cX11_inverse 8 = .ok (.bipush (-2), 2) := by decide +kernel
theorem dX11_inverse_10 : decode cX11_inverse 10 = .ok (.ireturn, 1) := by decide +kernel
theorem dX11_inverse_11 : decode cX11_inverse 11 = .ok (.aload_n 0, 1) := by decide +kernel
theorem dX11_inverse_12 : decode cX11_inverse 12 = .ok (.iload_n 1, 1) := by decide +kernel
theorem dX11_inverse_13 : decode cX11_inverse 13 = .ok (.invokevirtual 131, 3) := by decide +kernel
theorem dX11_inverse_16 : decode cX11_inverse 16 = .ok (.ifCond .ne 5, 3) := by decide +kernel
theorem dX11_inverse_19 : decode cX11_inverse 19 = .ok (.iconst (-1), 1) := by decide +kernel
theorem dX11_inverse_20 : decode cX11_inverse 20 = .ok (.ireturn, 1) := by decide +kernel
theorem dX11_inverse_21 : decode cX11_inverse 21 = .ok (.iconst 0, 1) := by decide +kernel
theorem dX11_inverse_22 : decode cX11_inverse 22 = .ok (.istore_n 3, 1) := by decide +kernel
theorem dX11_inverse_23 : decode cX11_inverse 23 = .ok (.iconst 1, 1) := by decide +kernel
theorem dX11_inverse_24 : decode cX11_inverse 24 = .ok (.istore 4, 2) := by decide +kernel
theorem dX11_inverse_26 : decode cX11_inverse 26 = .ok (.iload 4, 2) := by decide +kernel
theorem dX11_inverse_28 : decode cX11_inverse 28 = .ok (.sipush 4096, 3) := by decide +kernel
theorem dX11_inverse_31 : decode cX11_inverse 31 = .ok (.if_icmp .ge 35, 3) := by decide +kernel
theorem dX11_inverse_34 : decode cX11_inverse 34 = .ok (.aload_n 0, 1) := by decide +kernel
theorem dX11_inverse_35 : decode cX11_inverse 35 = .ok (.iload_n 1, 1) := by decide +kernel
theorem dX11_inverse_36 : decode cX11_inverse 36 = .ok (.iload 4, 2) := by decide +kernel
theorem dX11_inverse_38 : decode cX11_inverse 38 = .ok (.iload_n 2, 1) := by decide +kernel
theorem dX11_inverse_39 : decode cX11_inverse 39 = .ok (.invokevirtual 141, 3) := by decide +kernel
theorem dX11_inverse_42 : decode cX11_inverse 42 = .ok (.aload_n 0, 1) := by decide +kernel
theorem dX11_inverse_43 : decode cX11_inverse 43 = .ok (.iload_n 1, 1) := by decide +kernel
theorem dX11_inverse_44 : decode cX11_inverse 44 = .ok (.iload_n 3, 1) := by decide +kernel
theorem dX11_inverse_45 : decode cX11_inverse 45 = .ok (.iload_n 2, 1) := by decide +kernel
theorem dX11_inverse_46 : decode cX11_inverse 46 = .ok (.invokevirtual 141, 3) := by decide +kernel
theorem dX11_inverse_49 : decode cX11_inverse 49 = .ok (.lcmp, 1) := by decide +kernel
theorem dX11_inverse_50 : decode cX11_inverse 50 = .ok (.ifCond .ge 8, 3) := by decide +kernel
theorem dX11_inverse_53 : decode cX11_inverse 53 = .ok (.iload 4, 2) := by decide +kernel
theorem dX11_inverse_55 : decode cX11_inverse 55 = .ok (.goto 4, 3) := by decide +kernel
theorem dX11_inverse_58 : decode cX11_inverse 58 = .ok (.iload_n 3, 1) := by decide +kernel
theorem dX11_inverse_59 : decode cX11_inverse 59 = .ok (.istore_n 3, 1) := by decide +kernel
theorem dX11_inverse_60 : decode cX11_inverse 60 = .ok (.iinc 4 1, 3) := by decide +kernel
theorem dX11_inverse_63 : decode cX11_inverse 63 = .ok (.goto (-37), 3) := by decide +kernel
theorem dX11_inverse_66 : decode cX11_inverse 66 = .ok (.iload_n 3, 1) := by decide +kernel
theorem dX11_inverse_67 : decode cX11_inverse 67 = .ok (.ireturn, 1) := by decide +kernel
theorem dX11_far_0 : decode cX11_far 0 = .ok (.aload_n 0, 1) := by decide +kernel
theorem dX11_far_1 : decode cX11_far 1 = .ok (.iload_n 1, 1) := by decide +kernel
theorem dX11_far_2 : decode cX11_far 2 = .ok (.iload_n 2, 1) := by decide +kernel
theorem dX11_far_3 : decode cX11_far 3 = .ok (.invokevirtual 127, 3) := by decide +kernel
theorem dX11_far_6 : decode cX11_far 6 = .ok (.i2l, 1) := by decide +kernel
theorem dX11_far_7 : decode cX11_far 7 = .ok (.iload_n 3, 1) := by decide +kernel
theorem dX11_far_8 : decode cX11_far 8 = .ok (.i2l, 1) := by decide +kernel
theorem dX11_far_9 : decode cX11_far 9 = .ok (.lsub, 1) := by decide +kernel
theorem dX11_far_10 : decode cX11_far 10 = .ok (.lstore 4, 2) := by decide +kernel
theorem dX11_far_12 : decode cX11_far 12 = .ok (.lload 4, 2) := by decide +kernel
theorem dX11_far_14 : decode cX11_far 14 = .ok (.lconst 0, 1) := by decide +kernel
theorem dX11_far_15 : decode cX11_far 15 = .ok (.lcmp, 1) := by decide +kernel
theorem dX11_far_16 : decode cX11_far 16 = .ok (.ifCond .ge 9, 3) := by decide +kernel
theorem dX11_far_19 : decode cX11_far 19 = .ok (.lload 4, 2) := by decide +kernel
theorem dX11_far_21 : decode cX11_far 21 = .ok (.lneg, 1) := by decide +kernel
theorem dX11_far_22 : decode cX11_far 22 = .ok (.goto 5, 3) := by decide +kernel
theorem dX11_far_25 : decode cX11_far 25 = .ok (.lload 4, 2) := by decide +kernel
theorem dX11_far_27 : decode cX11_far 27 = .ok (.lreturn, 1) := by decide +kernel
theorem dX11_rest_0 : decode cX11_rest 0 = .ok (.aload_n 0, 1) := by decide +kernel
theorem dX11_rest_1 : decode cX11_rest 1 = .ok (.getfield 16, 3) := by decide +kernel
theorem dX11_rest_4 : decode cX11_rest 4 = .ok (.bipush 24, 2) := by decide +kernel
theorem dX11_rest_6 : decode cX11_rest 6 = .ok (.iload_n 1, 1) := by decide +kernel
theorem dX11_rest_7 : decode cX11_rest 7 = .ok (.imul, 1) := by decide +kernel
theorem dX11_rest_8 : decode cX11_rest 8 = .ok (.iload_n 2, 1) := by decide +kernel
theorem dX11_rest_9 : decode cX11_rest 9 = .ok (.iadd, 1) := by decide +kernel
theorem dX11_rest_10 : decode cX11_rest 10 = .ok (.iaload, 1) := by decide +kernel
theorem dX11_rest_11 : decode cX11_rest 11 = .ok (.aload_n 0, 1) := by decide +kernel
theorem dX11_rest_12 : decode cX11_rest 12 = .ok (.iload_n 3, 1) := by decide +kernel
theorem dX11_rest_13 : decode cX11_rest 13 = .ok (.aload_n 0, 1) := by decide +kernel
theorem dX11_rest_14 : decode cX11_rest 14 = .ok (.getfield 13, 3) := by decide +kernel
theorem dX11_rest_17 : decode cX11_rest 17 = .ok (.bipush 24, 2) := by decide +kernel
theorem dX11_rest_19 : decode cX11_rest 19 = .ok (.iload_n 1, 1) := by decide +kernel
theorem dX11_rest_20 : decode cX11_rest 20 = .ok (.imul, 1) := by decide +kernel
theorem dX11_rest_21 : decode cX11_rest 21 = .ok (.iload_n 2, 1) := by decide +kernel
theorem dX11_rest_22 : decode cX11_rest 22 = .ok (.iadd, 1) := by decide +kernel
theorem dX11_rest_23 : decode cX11_rest 23 = .ok (.iaload, 1) := by decide +kernel
theorem dX11_rest_24 : decode cX11_rest 24 = .ok (.invokevirtual 127, 3) := by decide +kernel
theorem dX11_rest_27 : decode cX11_rest 27 = .ok (.isub, 1) := by decide +kernel
theorem dX11_rest_28 : decode cX11_rest 28 = .ok (.ireturn, 1) := by decide +kernel
theorem dX11_residual_0 : decode cX11_residual 0 = .ok (.aload_n 0, 1) := by decide +kernel
theorem dX11_residual_1 : decode cX11_residual 1 = .ok (.iload_n 1, 1) := by decide +kernel
theorem dX11_residual_2 : decode cX11_residual 2 = .ok (.iload_n 2, 1) := by decide +kernel
theorem dX11_residual_3 : decode cX11_residual 3 = .ok (.invokevirtual 96, 3) := by decide +kernel
theorem dX11_residual_6 : decode cX11_residual 6 = .ok (.ifCond .eq 21, 3) := by decide +kernel
theorem dX11_residual_9 : decode cX11_residual 9 = .ok (.aload_n 0, 1) := by decide +kernel
theorem dX11_residual_10 : decode cX11_residual 10 = .ok (.iload_n 3, 1) := by decide +kernel
theorem dX11_residual_11 : decode cX11_residual 11 = .ok (.invokevirtual 118, 3) := by decide +kernel
theorem dX11_residual_14 : decode cX11_residual 14 = .ok (.ifCond .eq 13, 3) := by decide +kernel
theorem dX11_residual_17 : decode cX11_residual 17 = .ok (.aload_n 0, 1) := by decide +kernel
theorem dX11_residual_18 : decode cX11_residual 18 = .ok (.iload_n 1, 1) := by decide +kernel
theorem dX11_residual_19 : decode cX11_residual 19 = .ok (.iload_n 2, 1) := by decide +kernel
theorem dX11_residual_20 : decode cX11_residual 20 = .ok (.iload_n 3, 1) := by decide +kernel
theorem dX11_residual_21 : decode cX11_residual 21 = .ok (.invokevirtual 145, 3) := by decide +kernel
theorem dX11_residual_24 : decode cX11_residual 24 = .ok (.goto 5, 3) := by decide +kernel
theorem dX11_residual_27 : decode cX11_residual 27 = .ok (.ldc 130, 2) := by decide +kernel
theorem dX11_residual_29 : decode cX11_residual 29 = .ok (.ireturn, 1) := by decide +kernel
theorem dX11_worst_0 : decode cX11_worst 0 = .ok (.iload_n 1, 1) := by decide +kernel
theorem dX11_worst_1 : decode cX11_worst 1 = .ok (.invokestatic 89, 3) := by decide +kernel
theorem dX11_worst_4 : decode cX11_worst 4 = .ok (.ifCond .eq 11, 3) := by decide +kernel
theorem dX11_worst_7 : decode cX11_worst 7 = .ok (.aload_n 0, 1) := by decide +kernel
theorem dX11_worst_8 : decode cX11_worst 8 = .ok (.iload_n 2, 1) := by decide +kernel
theorem dX11_worst_9 : decode cX11_worst 9 = .ok (.invokevirtual 118, 3) := by decide +kernel
theorem dX11_worst_12 : decode cX11_worst 12 = .ok (.ifCond .ne 6, 3) := by decide +kernel
theorem dX11_worst_15 : decode cX11_worst 15 = .ok (.bipush (-2), 2) := by decide +kernel
theorem dX11_worst_17 : decode cX11_worst 17 = .ok (.ireturn, 1) := by decide +kernel
theorem dX11_worst_18 : decode cX11_worst 18 = .ok (.iconst (-1), 1) := by decide +kernel
theorem dX11_worst_19 : decode cX11_worst 19 = .ok (.istore_n 3, 1) := by decide +kernel
theorem dX11_worst_20 : decode cX11_worst 20 = .ok (.iconst (-1), 1) := by decide +kernel
theorem dX11_worst_21 : decode cX11_worst 21 = .ok (.istore 4, 2) := by decide +kernel
theorem dX11_worst_23 : decode cX11_worst 23 = .ok (.iconst 0, 1) := by decide +kernel
theorem dX11_worst_24 : decode cX11_worst 24 = .ok (.istore 5, 2) := by decide +kernel
theorem dX11_worst_26 : decode cX11_worst 26 = .ok (.iload 5, 2) := by decide +kernel
theorem dX11_worst_28 : decode cX11_worst 28 = .ok (.aload_n 0, 1) := by decide +kernel
theorem dX11_worst_29 : decode cX11_worst 29 = .ok (.getfield 9, 3) := by decide +kernel
theorem dX11_worst_32 : decode cX11_worst 32 = .ok (.iload_n 1, 1) := by decide +kernel
theorem dX11_worst_33 : decode cX11_worst 33 = .ok (.iaload, 1) := by decide +kernel
theorem dX11_worst_34 : decode cX11_worst 34 = .ok (.if_icmp .ge 48, 3) := by decide +kernel
theorem dX11_worst_37 : decode cX11_worst 37 = .ok (.aload_n 0, 1) := by decide +kernel
theorem dX11_worst_38 : decode cX11_worst 38 = .ok (.iload_n 1, 1) := by decide +kernel
theorem dX11_worst_39 : decode cX11_worst 39 = .ok (.iload 5, 2) := by decide +kernel
theorem dX11_worst_41 : decode cX11_worst 41 = .ok (.iload_n 2, 1) := by decide +kernel
theorem dX11_worst_42 : decode cX11_worst 42 = .ok (.invokevirtual 145, 3) := by decide +kernel
theorem dX11_worst_45 : decode cX11_worst 45 = .ok (.istore 6, 2) := by decide +kernel
theorem dX11_worst_47 : decode cX11_worst 47 = .ok (.iload 6, 2) := by decide +kernel
theorem dX11_worst_49 : decode cX11_worst 49 = .ok (.ifCond .ge 9, 3) := by decide +kernel
theorem dX11_worst_52 : decode cX11_worst 52 = .ok (.iload 6, 2) := by decide +kernel
theorem dX11_worst_54 : decode cX11_worst 54 = .ok (.ineg, 1) := by decide +kernel
theorem dX11_worst_55 : decode cX11_worst 55 = .ok (.goto 5, 3) := by decide +kernel
theorem dX11_worst_58 : decode cX11_worst 58 = .ok (.iload 6, 2) := by decide +kernel
theorem dX11_worst_60 : decode cX11_worst 60 = .ok (.istore 7, 2) := by decide +kernel
theorem dX11_worst_62 : decode cX11_worst 62 = .ok (.iload 7, 2) := by decide +kernel
theorem dX11_worst_64 : decode cX11_worst 64 = .ok (.iload 4, 2) := by decide +kernel
theorem dX11_worst_66 : decode cX11_worst 66 = .ok (.if_icmp .le 10, 3) := by decide +kernel
theorem dX11_worst_69 : decode cX11_worst 69 = .ok (.iload 7, 2) := by decide +kernel
theorem dX11_worst_71 : decode cX11_worst 71 = .ok (.istore 4, 2) := by decide +kernel
theorem dX11_worst_73 : decode cX11_worst 73 = .ok (.iload 5, 2) := by decide +kernel
theorem dX11_worst_75 : decode cX11_worst 75 = .ok (.istore_n 3, 1) := by decide +kernel
theorem dX11_worst_76 : decode cX11_worst 76 = .ok (.iinc 5 1, 3) := by decide +kernel
theorem dX11_worst_79 : decode cX11_worst 79 = .ok (.goto (-53), 3) := by decide +kernel
theorem dX11_worst_82 : decode cX11_worst 82 = .ok (.iload_n 3, 1) := by decide +kernel
theorem dX11_worst_83 : decode cX11_worst 83 = .ok (.ireturn, 1) := by decide +kernel
theorem dX11_squares_0 : decode cX11_squares 0 = .ok (.iload_n 1, 1) := by decide +kernel
theorem dX11_squares_1 : decode cX11_squares 1 = .ok (.invokestatic 89, 3) := by decide +kernel
theorem dX11_squares_4 : decode cX11_squares 4 = .ok (.ifCond .eq 11, 3) := by decide +kernel
theorem dX11_squares_7 : decode cX11_squares 7 = .ok (.aload_n 0, 1) := by decide +kernel
theorem dX11_squares_8 : decode cX11_squares 8 = .ok (.iload_n 2, 1) := by decide +kernel
theorem dX11_squares_9 : decode cX11_squares 9 = .ok (.invokevirtual 118, 3) := by decide +kernel
theorem dX11_squares_12 : decode cX11_squares 12 = .ok (.ifCond .ne 7, 3) := by decide +kernel
theorem dX11_squares_15 : decode cX11_squares 15 = .ok (.ldc2_w 149, 3) := by decide +kernel
theorem dX11_squares_18 : decode cX11_squares 18 = .ok (.lreturn, 1) := by decide +kernel
theorem dX11_squares_19 : decode cX11_squares 19 = .ok (.lconst 0, 1) := by decide +kernel
theorem dX11_squares_20 : decode cX11_squares 20 = .ok (.lstore_n 3, 1) := by decide +kernel
theorem dX11_squares_21 : decode cX11_squares 21 = .ok (.iconst 0, 1) := by decide +kernel
theorem dX11_squares_22 : decode cX11_squares 22 = .ok (.istore 5, 2) := by decide +kernel
theorem dX11_squares_24 : decode cX11_squares 24 = .ok (.iload 5, 2) := by decide +kernel
theorem dX11_squares_26 : decode cX11_squares 26 = .ok (.aload_n 0, 1) := by decide +kernel
theorem dX11_squares_27 : decode cX11_squares 27 = .ok (.getfield 9, 3) := by decide +kernel
theorem dX11_squares_30 : decode cX11_squares 30 = .ok (.iload_n 1, 1) := by decide +kernel
theorem dX11_squares_31 : decode cX11_squares 31 = .ok (.iaload, 1) := by decide +kernel
theorem dX11_squares_32 : decode cX11_squares 32 = .ok (.if_icmp .ge 42, 3) := by decide +kernel
theorem dX11_squares_35 : decode cX11_squares 35 = .ok (.aload_n 0, 1) := by decide +kernel
theorem dX11_squares_36 : decode cX11_squares 36 = .ok (.iload_n 1, 1) := by decide +kernel
theorem dX11_squares_37 : decode cX11_squares 37 = .ok (.iload 5, 2) := by decide +kernel
theorem dX11_squares_39 : decode cX11_squares 39 = .ok (.iload_n 2, 1) := by decide +kernel
theorem dX11_squares_40 : decode cX11_squares 40 = .ok (.invokevirtual 145, 3) := by decide +kernel
theorem dX11_squares_43 : decode cX11_squares 43 = .ok (.i2l, 1) := by decide +kernel
theorem dX11_squares_44 : decode cX11_squares 44 = .ok (.lstore 6, 2) := by decide +kernel
theorem dX11_squares_46 : decode cX11_squares 46 = .ok (.lload_n 3, 1) := by decide +kernel
theorem dX11_squares_47 : decode cX11_squares 47 = .ok (.aload_n 0, 1) := by decide +kernel
theorem dX11_squares_48 : decode cX11_squares 48 = .ok (.getfield 19, 3) := by decide +kernel
theorem dX11_squares_51 : decode cX11_squares 51 = .ok (.bipush 24, 2) := by decide +kernel
theorem dX11_squares_53 : decode cX11_squares 53 = .ok (.iload_n 1, 1) := by decide +kernel
theorem dX11_squares_54 : decode cX11_squares 54 = .ok (.imul, 1) := by decide +kernel
theorem dX11_squares_55 : decode cX11_squares 55 = .ok (.iload 5, 2) := by decide +kernel
theorem dX11_squares_57 : decode cX11_squares 57 = .ok (.iadd, 1) := by decide +kernel
theorem dX11_squares_58 : decode cX11_squares 58 = .ok (.iaload, 1) := by decide +kernel
theorem dX11_squares_59 : decode cX11_squares 59 = .ok (.i2l, 1) := by decide +kernel
theorem dX11_squares_60 : decode cX11_squares 60 = .ok (.lload 6, 2) := by decide +kernel
theorem dX11_squares_62 : decode cX11_squares 62 = .ok (.lmul, 1) := by decide +kernel
theorem dX11_squares_63 : decode cX11_squares 63 = .ok (.lload 6, 2) := by decide +kernel
theorem dX11_squares_65 : decode cX11_squares 65 = .ok (.lmul, 1) := by decide +kernel
theorem dX11_squares_66 : decode cX11_squares 66 = .ok (.ladd, 1) := by decide +kernel
theorem dX11_squares_67 : decode cX11_squares 67 = .ok (.lstore_n 3, 1) := by decide +kernel
theorem dX11_squares_68 : decode cX11_squares 68 = .ok (.iinc 5 1, 3) := by decide +kernel
theorem dX11_squares_71 : decode cX11_squares 71 = .ok (.goto (-47), 3) := by decide +kernel
theorem dX11_squares_74 : decode cX11_squares 74 = .ok (.lload_n 3, 1) := by decide +kernel
theorem dX11_squares_75 : decode cX11_squares 75 = .ok (.lreturn, 1) := by decide +kernel
theorem dX11_drift_0 : decode cX11_drift 0 = .ok (.iload_n 1, 1) := by decide +kernel
theorem dX11_drift_1 : decode cX11_drift 1 = .ok (.invokestatic 89, 3) := by decide +kernel
theorem dX11_drift_4 : decode cX11_drift 4 = .ok (.ifCond .eq 20, 3) := by decide +kernel
theorem dX11_drift_7 : decode cX11_drift 7 = .ok (.aload_n 0, 1) := by decide +kernel
theorem dX11_drift_8 : decode cX11_drift 8 = .ok (.iload_n 2, 1) := by decide +kernel
theorem dX11_drift_9 : decode cX11_drift 9 = .ok (.invokevirtual 118, 3) := by decide +kernel
theorem dX11_drift_12 : decode cX11_drift 12 = .ok (.ifCond .eq 12, 3) := by decide +kernel
theorem dX11_drift_15 : decode cX11_drift 15 = .ok (.aload_n 0, 1) := by decide +kernel
theorem dX11_drift_16 : decode cX11_drift 16 = .ok (.getfield 9, 3) := by decide +kernel
theorem dX11_drift_19 : decode cX11_drift 19 = .ok (.iload_n 1, 1) := by decide +kernel
theorem dX11_drift_20 : decode cX11_drift 20 = .ok (.iaload, 1) := by decide +kernel
theorem dX11_drift_21 : decode cX11_drift 21 = .ok (.ifCond .ne 6, 3) := by decide +kernel
theorem dX11_drift_24 : decode cX11_drift 24 = .ok (.ldc 130, 2) := by decide +kernel
theorem dX11_drift_26 : decode cX11_drift 26 = .ok (.ireturn, 1) := by decide +kernel
theorem dX11_drift_27 : decode cX11_drift 27 = .ok (.lconst 0, 1) := by decide +kernel
theorem dX11_drift_28 : decode cX11_drift 28 = .ok (.lstore_n 3, 1) := by decide +kernel
theorem dX11_drift_29 : decode cX11_drift 29 = .ok (.lconst 0, 1) := by decide +kernel
theorem dX11_drift_30 : decode cX11_drift 30 = .ok (.lstore 5, 2) := by decide +kernel
theorem dX11_drift_32 : decode cX11_drift 32 = .ok (.iconst 0, 1) := by decide +kernel
theorem dX11_drift_33 : decode cX11_drift 33 = .ok (.istore 7, 2) := by decide +kernel
theorem dX11_drift_35 : decode cX11_drift 35 = .ok (.iload 7, 2) := by decide +kernel
theorem dX11_drift_37 : decode cX11_drift 37 = .ok (.aload_n 0, 1) := by decide +kernel
theorem dX11_drift_38 : decode cX11_drift 38 = .ok (.getfield 9, 3) := by decide +kernel
theorem dX11_drift_41 : decode cX11_drift 41 = .ok (.iload_n 1, 1) := by decide +kernel
theorem dX11_drift_42 : decode cX11_drift 42 = .ok (.iaload, 1) := by decide +kernel
theorem dX11_drift_43 : decode cX11_drift 43 = .ok (.if_icmp .ge 53, 3) := by decide +kernel
theorem dX11_drift_46 : decode cX11_drift 46 = .ok (.lload_n 3, 1) := by decide +kernel
theorem dX11_drift_47 : decode cX11_drift 47 = .ok (.aload_n 0, 1) := by decide +kernel
theorem dX11_drift_48 : decode cX11_drift 48 = .ok (.getfield 19, 3) := by decide +kernel
theorem dX11_drift_51 : decode cX11_drift 51 = .ok (.bipush 24, 2) := by decide +kernel
theorem dX11_drift_53 : decode cX11_drift 53 = .ok (.iload_n 1, 1) := by decide +kernel
theorem dX11_drift_54 : decode cX11_drift 54 = .ok (.imul, 1) := by decide +kernel
theorem dX11_drift_55 : decode cX11_drift 55 = .ok (.iload 7, 2) := by decide +kernel
theorem dX11_drift_57 : decode cX11_drift 57 = .ok (.iadd, 1) := by decide +kernel
theorem dX11_drift_58 : decode cX11_drift 58 = .ok (.iaload, 1) := by decide +kernel
theorem dX11_drift_59 : decode cX11_drift 59 = .ok (.i2l, 1) := by decide +kernel
theorem dX11_drift_60 : decode cX11_drift 60 = .ok (.aload_n 0, 1) := by decide +kernel
theorem dX11_drift_61 : decode cX11_drift 61 = .ok (.iload_n 1, 1) := by decide +kernel
theorem dX11_drift_62 : decode cX11_drift 62 = .ok (.iload 7, 2) := by decide +kernel
theorem dX11_drift_64 : decode cX11_drift 64 = .ok (.iload_n 2, 1) := by decide +kernel
theorem dX11_drift_65 : decode cX11_drift 65 = .ok (.invokevirtual 145, 3) := by decide +kernel
theorem dX11_drift_68 : decode cX11_drift 68 = .ok (.i2l, 1) := by decide +kernel
theorem dX11_drift_69 : decode cX11_drift 69 = .ok (.lmul, 1) := by decide +kernel
theorem dX11_drift_70 : decode cX11_drift 70 = .ok (.ladd, 1) := by decide +kernel
theorem dX11_drift_71 : decode cX11_drift 71 = .ok (.lstore_n 3, 1) := by decide +kernel
theorem dX11_drift_72 : decode cX11_drift 72 = .ok (.lload 5, 2) := by decide +kernel
theorem dX11_drift_74 : decode cX11_drift 74 = .ok (.aload_n 0, 1) := by decide +kernel
theorem dX11_drift_75 : decode cX11_drift 75 = .ok (.getfield 19, 3) := by decide +kernel
theorem dX11_drift_78 : decode cX11_drift 78 = .ok (.bipush 24, 2) := by decide +kernel
theorem dX11_drift_80 : decode cX11_drift 80 = .ok (.iload_n 1, 1) := by decide +kernel
theorem dX11_drift_81 : decode cX11_drift 81 = .ok (.imul, 1) := by decide +kernel
theorem dX11_drift_82 : decode cX11_drift 82 = .ok (.iload 7, 2) := by decide +kernel
theorem dX11_drift_84 : decode cX11_drift 84 = .ok (.iadd, 1) := by decide +kernel
theorem dX11_drift_85 : decode cX11_drift 85 = .ok (.iaload, 1) := by decide +kernel
theorem dX11_drift_86 : decode cX11_drift 86 = .ok (.i2l, 1) := by decide +kernel
theorem dX11_drift_87 : decode cX11_drift 87 = .ok (.ladd, 1) := by decide +kernel
theorem dX11_drift_88 : decode cX11_drift 88 = .ok (.lstore 5, 2) := by decide +kernel
theorem dX11_drift_90 : decode cX11_drift 90 = .ok (.iinc 7 1, 3) := by decide +kernel
theorem dX11_drift_93 : decode cX11_drift 93 = .ok (.goto (-58), 3) := by decide +kernel
theorem dX11_drift_96 : decode cX11_drift 96 = .ok (.lload_n 3, 1) := by decide +kernel
theorem dX11_drift_97 : decode cX11_drift 97 = .ok (.lload 5, 2) := by decide +kernel
theorem dX11_drift_99 : decode cX11_drift 99 = .ok (.invokestatic 104, 3) := by decide +kernel
theorem dX11_drift_102 : decode cX11_drift 102 = .ok (.l2i, 1) := by decide +kernel
theorem dX11_drift_103 : decode cX11_drift 103 = .ok (.ireturn, 1) := by decide +kernel
theorem dX11_isFour_0 : decode cX11_isFour 0 = .ok (.iload_n 0, 1) := by decide +kernel
theorem dX11_isFour_1 : decode cX11_isFour 1 = .ok (.ifCond .lt 12, 3) := by decide +kernel
theorem dX11_isFour_4 : decode cX11_isFour 4 = .ok (.iload_n 0, 1) := by decide +kernel
theorem dX11_isFour_5 : decode cX11_isFour 5 = .ok (.iconst 4, 1) := by decide +kernel
theorem dX11_isFour_6 : decode cX11_isFour 6 = .ok (.if_icmp .ge 7, 3) := by decide +kernel
theorem dX11_isFour_9 : decode cX11_isFour 9 = .ok (.iconst 1, 1) := by decide +kernel
theorem dX11_isFour_10 : decode cX11_isFour 10 = .ok (.goto 4, 3) := by decide +kernel
theorem dX11_isFour_13 : decode cX11_isFour 13 = .ok (.iconst 0, 1) := by decide +kernel
theorem dX11_isFour_14 : decode cX11_isFour 14 = .ok (.ireturn, 1) := by decide +kernel
theorem dX11_probe_0 : decode cX11_probe 0 = .ok (.iload_n 1, 1) := by decide +kernel
theorem dX11_probe_1 : decode cX11_probe 1 = .ok (.invokestatic 151, 3) := by decide +kernel
theorem dX11_probe_4 : decode cX11_probe 4 = .ok (.ifCond .eq 33, 3) := by decide +kernel
theorem dX11_probe_7 : decode cX11_probe 7 = .ok (.aload_n 0, 1) := by decide +kernel
theorem dX11_probe_8 : decode cX11_probe 8 = .ok (.iload_n 2, 1) := by decide +kernel
theorem dX11_probe_9 : decode cX11_probe 9 = .ok (.invokevirtual 118, 3) := by decide +kernel
theorem dX11_probe_12 : decode cX11_probe 12 = .ok (.ifCond .eq 25, 3) := by decide +kernel
theorem dX11_probe_15 : decode cX11_probe 15 = .ok (.iload_n 3, 1) := by decide +kernel
theorem dX11_probe_16 : decode cX11_probe 16 = .ok (.ifCond .lt 21, 3) := by decide +kernel
theorem dX11_probe_19 : decode cX11_probe 19 = .ok (.iload_n 3, 1) := by decide +kernel
theorem dX11_probe_20 : decode cX11_probe 20 = .ok (.iconst 2, 1) := by decide +kernel
theorem dX11_probe_21 : decode cX11_probe 21 = .ok (.if_icmp .gt 16, 3) := by decide +kernel
theorem dX11_probe_24 : decode cX11_probe 24 = .ok (.iload 4, 2) := by decide +kernel
theorem dX11_probe_26 : decode cX11_probe 26 = .ok (.iconst 1, 1) := by decide +kernel
theorem dX11_probe_27 : decode cX11_probe 27 = .ok (.if_icmp .lt 10, 3) := by decide +kernel
theorem dX11_probe_30 : decode cX11_probe 30 = .ok (.iload 4, 2) := by decide +kernel
theorem dX11_probe_32 : decode cX11_probe 32 = .ok (.bipush 9, 2) := by decide +kernel
theorem dX11_probe_34 : decode cX11_probe 34 = .ok (.if_icmp .le 6, 3) := by decide +kernel
theorem dX11_probe_37 : decode cX11_probe 37 = .ok (.bipush (-2), 2) := by decide +kernel
theorem dX11_probe_39 : decode cX11_probe 39 = .ok (.ireturn, 1) := by decide +kernel
theorem dX11_probe_40 : decode cX11_probe 40 = .ok (.aload_n 0, 1) := by decide +kernel
theorem dX11_probe_41 : decode cX11_probe 41 = .ok (.getfield 38, 3) := by decide +kernel
theorem dX11_probe_44 : decode cX11_probe 44 = .ok (.iload_n 1, 1) := by decide +kernel
theorem dX11_probe_45 : decode cX11_probe 45 = .ok (.iload_n 2, 1) := by decide +kernel
theorem dX11_probe_46 : decode cX11_probe 46 = .ok (.iastore, 1) := by decide +kernel
theorem dX11_probe_47 : decode cX11_probe 47 = .ok (.aload_n 0, 1) := by decide +kernel
theorem dX11_probe_48 : decode cX11_probe 48 = .ok (.getfield 41, 3) := by decide +kernel
theorem dX11_probe_51 : decode cX11_probe 51 = .ok (.iload_n 1, 1) := by decide +kernel
theorem dX11_probe_52 : decode cX11_probe 52 = .ok (.iload_n 3, 1) := by decide +kernel
theorem dX11_probe_53 : decode cX11_probe 53 = .ok (.iastore, 1) := by decide +kernel
theorem dX11_probe_54 : decode cX11_probe 54 = .ok (.aload_n 0, 1) := by decide +kernel
theorem dX11_probe_55 : decode cX11_probe 55 = .ok (.getfield 44, 3) := by decide +kernel
theorem dX11_probe_58 : decode cX11_probe 58 = .ok (.iload_n 1, 1) := by decide +kernel
theorem dX11_probe_59 : decode cX11_probe 59 = .ok (.iload 4, 2) := by decide +kernel
theorem dX11_probe_61 : decode cX11_probe 61 = .ok (.iastore, 1) := by decide +kernel
theorem dX11_probe_62 : decode cX11_probe 62 = .ok (.aload_n 0, 1) := by decide +kernel
theorem dX11_probe_63 : decode cX11_probe 63 = .ok (.getfield 47, 3) := by decide +kernel
theorem dX11_probe_66 : decode cX11_probe 66 = .ok (.iload_n 1, 1) := by decide +kernel
theorem dX11_probe_67 : decode cX11_probe 67 = .ok (.iconst 0, 1) := by decide +kernel
theorem dX11_probe_68 : decode cX11_probe 68 = .ok (.iastore, 1) := by decide +kernel
theorem dX11_probe_69 : decode cX11_probe 69 = .ok (.iconst 1, 1) := by decide +kernel
theorem dX11_probe_70 : decode cX11_probe 70 = .ok (.ireturn, 1) := by decide +kernel
theorem dX11_feed_0 : decode cX11_feed 0 = .ok (.iload_n 1, 1) := by decide +kernel
theorem dX11_feed_1 : decode cX11_feed 1 = .ok (.invokestatic 151, 3) := by decide +kernel
theorem dX11_feed_4 : decode cX11_feed 4 = .ok (.ifCond .eq 10, 3) := by decide +kernel
theorem dX11_feed_7 : decode cX11_feed 7 = .ok (.iload_n 2, 1) := by decide +kernel
theorem dX11_feed_8 : decode cX11_feed 8 = .ok (.invokestatic 93, 3) := by decide +kernel
theorem dX11_feed_11 : decode cX11_feed 11 = .ok (.ifCond .ne 6, 3) := by decide +kernel
theorem dX11_feed_14 : decode cX11_feed 14 = .ok (.bipush (-2), 2) := by decide +kernel
theorem dX11_feed_16 : decode cX11_feed 16 = .ok (.ireturn, 1) := by decide +kernel
theorem dX11_feed_17 : decode cX11_feed 17 = .ok (.bipush 8, 2) := by decide +kernel
theorem dX11_feed_19 : decode cX11_feed 19 = .ok (.istore_n 3, 1) := by decide +kernel
theorem dX11_feed_20 : decode cX11_feed 20 = .ok (.iload_n 3, 1) := by decide +kernel
theorem dX11_feed_21 : decode cX11_feed 21 = .ok (.ifCond .le 33, 3) := by decide +kernel
theorem dX11_feed_24 : decode cX11_feed 24 = .ok (.aload_n 0, 1) := by decide +kernel
theorem dX11_feed_25 : decode cX11_feed 25 = .ok (.getfield 50, 3) := by decide +kernel
theorem dX11_feed_28 : decode cX11_feed 28 = .ok (.bipush 9, 2) := by decide +kernel
theorem dX11_feed_30 : decode cX11_feed 30 = .ok (.iload_n 1, 1) := by decide +kernel
theorem dX11_feed_31 : decode cX11_feed 31 = .ok (.imul, 1) := by decide +kernel
theorem dX11_feed_32 : decode cX11_feed 32 = .ok (.iload_n 3, 1) := by decide +kernel
theorem dX11_feed_33 : decode cX11_feed 33 = .ok (.iadd, 1) := by decide +kernel
theorem dX11_feed_34 : decode cX11_feed 34 = .ok (.aload_n 0, 1) := by decide +kernel
theorem dX11_feed_35 : decode cX11_feed 35 = .ok (.getfield 50, 3) := by decide +kernel
theorem dX11_feed_38 : decode cX11_feed 38 = .ok (.bipush 9, 2) := by decide +kernel
theorem dX11_feed_40 : decode cX11_feed 40 = .ok (.iload_n 1, 1) := by decide +kernel
theorem dX11_feed_41 : decode cX11_feed 41 = .ok (.imul, 1) := by decide +kernel
theorem dX11_feed_42 : decode cX11_feed 42 = .ok (.iload_n 3, 1) := by decide +kernel
theorem dX11_feed_43 : decode cX11_feed 43 = .ok (.iadd, 1) := by decide +kernel
theorem dX11_feed_44 : decode cX11_feed 44 = .ok (.iconst 1, 1) := by decide +kernel
theorem dX11_feed_45 : decode cX11_feed 45 = .ok (.isub, 1) := by decide +kernel
theorem dX11_feed_46 : decode cX11_feed 46 = .ok (.iaload, 1) := by decide +kernel
theorem dX11_feed_47 : decode cX11_feed 47 = .ok (.iastore, 1) := by decide +kernel
theorem dX11_feed_48 : decode cX11_feed 48 = .ok (.iinc 3 (-1), 3) := by decide +kernel
theorem dX11_feed_51 : decode cX11_feed 51 = .ok (.goto (-31), 3) := by decide +kernel
theorem dX11_feed_54 : decode cX11_feed 54 = .ok (.aload_n 0, 1) := by decide +kernel
theorem dX11_feed_55 : decode cX11_feed 55 = .ok (.getfield 50, 3) := by decide +kernel
theorem dX11_feed_58 : decode cX11_feed 58 = .ok (.bipush 9, 2) := by decide +kernel
theorem dX11_feed_60 : decode cX11_feed 60 = .ok (.iload_n 1, 1) := by decide +kernel
theorem dX11_feed_61 : decode cX11_feed 61 = .ok (.imul, 1) := by decide +kernel
theorem dX11_feed_62 : decode cX11_feed 62 = .ok (.iload_n 2, 1) := by decide +kernel
theorem dX11_feed_63 : decode cX11_feed 63 = .ok (.iastore, 1) := by decide +kernel
theorem dX11_feed_64 : decode cX11_feed 64 = .ok (.aload_n 0, 1) := by decide +kernel
theorem dX11_feed_65 : decode cX11_feed 65 = .ok (.getfield 47, 3) := by decide +kernel
theorem dX11_feed_68 : decode cX11_feed 68 = .ok (.iload_n 1, 1) := by decide +kernel
theorem dX11_feed_69 : decode cX11_feed 69 = .ok (.aload_n 0, 1) := by decide +kernel
theorem dX11_feed_70 : decode cX11_feed 70 = .ok (.getfield 47, 3) := by decide +kernel
theorem dX11_feed_73 : decode cX11_feed 73 = .ok (.iload_n 1, 1) := by decide +kernel
theorem dX11_feed_74 : decode cX11_feed 74 = .ok (.iaload, 1) := by decide +kernel
theorem dX11_feed_75 : decode cX11_feed 75 = .ok (.bipush 9, 2) := by decide +kernel
theorem dX11_feed_77 : decode cX11_feed 77 = .ok (.if_icmp .ge 14, 3) := by decide +kernel
theorem dX11_feed_80 : decode cX11_feed 80 = .ok (.aload_n 0, 1) := by decide +kernel
theorem dX11_feed_81 : decode cX11_feed 81 = .ok (.getfield 47, 3) := by decide +kernel
theorem dX11_feed_84 : decode cX11_feed 84 = .ok (.iload_n 1, 1) := by decide +kernel
theorem dX11_feed_85 : decode cX11_feed 85 = .ok (.iaload, 1) := by decide +kernel
theorem dX11_feed_86 : decode cX11_feed 86 = .ok (.iconst 1, 1) := by decide +kernel
theorem dX11_feed_87 : decode cX11_feed 87 = .ok (.iadd, 1) := by decide +kernel
theorem dX11_feed_88 : decode cX11_feed 88 = .ok (.goto 5, 3) := by decide +kernel
theorem dX11_feed_91 : decode cX11_feed 91 = .ok (.bipush 9, 2) := by decide +kernel
theorem dX11_feed_93 : decode cX11_feed 93 = .ok (.iastore, 1) := by decide +kernel
theorem dX11_feed_94 : decode cX11_feed 94 = .ok (.aload_n 0, 1) := by decide +kernel
theorem dX11_feed_95 : decode cX11_feed 95 = .ok (.getfield 53, 3) := by decide +kernel
theorem dX11_feed_98 : decode cX11_feed 98 = .ok (.iload_n 1, 1) := by decide +kernel
theorem dX11_feed_99 : decode cX11_feed 99 = .ok (.aload_n 0, 1) := by decide +kernel
theorem dX11_feed_100 : decode cX11_feed 100 = .ok (.iload_n 1, 1) := by decide +kernel
theorem dX11_feed_101 : decode cX11_feed 101 = .ok (.invokevirtual 154, 3) := by decide +kernel
theorem dX11_feed_104 : decode cX11_feed 104 = .ok (.iastore, 1) := by decide +kernel
theorem dX11_feed_105 : decode cX11_feed 105 = .ok (.aload_n 0, 1) := by decide +kernel
theorem dX11_feed_106 : decode cX11_feed 106 = .ok (.getfield 53, 3) := by decide +kernel
theorem dX11_feed_109 : decode cX11_feed 109 = .ok (.iload_n 1, 1) := by decide +kernel
theorem dX11_feed_110 : decode cX11_feed 110 = .ok (.iaload, 1) := by decide +kernel
theorem dX11_feed_111 : decode cX11_feed 111 = .ok (.ireturn, 1) := by decide +kernel
theorem dX11_filtered_0 : decode cX11_filtered 0 = .ok (.aload_n 0, 1) := by decide +kernel
theorem dX11_filtered_1 : decode cX11_filtered 1 = .ok (.getfield 47, 3) := by decide +kernel
theorem dX11_filtered_4 : decode cX11_filtered 4 = .ok (.iload_n 1, 1) := by decide +kernel
theorem dX11_filtered_5 : decode cX11_filtered 5 = .ok (.iaload, 1) := by decide +kernel
theorem dX11_filtered_6 : decode cX11_filtered 6 = .ok (.aload_n 0, 1) := by decide +kernel
theorem dX11_filtered_7 : decode cX11_filtered 7 = .ok (.getfield 44, 3) := by decide +kernel
theorem dX11_filtered_10 : decode cX11_filtered 10 = .ok (.iload_n 1, 1) := by decide +kernel
theorem dX11_filtered_11 : decode cX11_filtered 11 = .ok (.iaload, 1) := by decide +kernel
theorem dX11_filtered_12 : decode cX11_filtered 12 = .ok (.if_icmp .ge 12, 3) := by decide +kernel
theorem dX11_filtered_15 : decode cX11_filtered 15 = .ok (.aload_n 0, 1) := by decide +kernel
theorem dX11_filtered_16 : decode cX11_filtered 16 = .ok (.getfield 47, 3) := by decide +kernel
theorem dX11_filtered_19 : decode cX11_filtered 19 = .ok (.iload_n 1, 1) := by decide +kernel
theorem dX11_filtered_20 : decode cX11_filtered 20 = .ok (.iaload, 1) := by decide +kernel
theorem dX11_filtered_21 : decode cX11_filtered 21 = .ok (.goto 9, 3) := by decide +kernel
theorem dX11_filtered_24 : decode cX11_filtered 24 = .ok (.aload_n 0, 1) := by decide +kernel
theorem dX11_filtered_25 : decode cX11_filtered 25 = .ok (.getfield 44, 3) := by decide +kernel
theorem dX11_filtered_28 : decode cX11_filtered 28 = .ok (.iload_n 1, 1) := by decide +kernel
theorem dX11_filtered_29 : decode cX11_filtered 29 = .ok (.iaload, 1) := by decide +kernel
theorem dX11_filtered_30 : decode cX11_filtered 30 = .ok (.istore_n 2, 1) := by decide +kernel
theorem dX11_filtered_31 : decode cX11_filtered 31 = .ok (.aload_n 0, 1) := by decide +kernel
theorem dX11_filtered_32 : decode cX11_filtered 32 = .ok (.getfield 41, 3) := by decide +kernel
theorem dX11_filtered_35 : decode cX11_filtered 35 = .ok (.iload_n 1, 1) := by decide +kernel
theorem dX11_filtered_36 : decode cX11_filtered 36 = .ok (.iaload, 1) := by decide +kernel
theorem dX11_filtered_37 : decode cX11_filtered 37 = .ok (.ifCond .ne 13, 3) := by decide +kernel
theorem dX11_filtered_40 : decode cX11_filtered 40 = .ok (.aload_n 0, 1) := by decide +kernel
theorem dX11_filtered_41 : decode cX11_filtered 41 = .ok (.getfield 50, 3) := by decide +kernel
theorem dX11_filtered_44 : decode cX11_filtered 44 = .ok (.bipush 9, 2) := by decide +kernel
theorem dX11_filtered_46 : decode cX11_filtered 46 = .ok (.iload_n 1, 1) := by decide +kernel
theorem dX11_filtered_47 : decode cX11_filtered 47 = .ok (.imul, 1) := by decide +kernel
theorem dX11_filtered_48 : decode cX11_filtered 48 = .ok (.iaload, 1) := by decide +kernel
theorem dX11_filtered_49 : decode cX11_filtered 49 = .ok (.ireturn, 1) := by decide +kernel
theorem dX11_filtered_50 : decode cX11_filtered 50 = .ok (.lconst 0, 1) := by decide +kernel
theorem dX11_filtered_51 : decode cX11_filtered 51 = .ok (.lstore_n 3, 1) := by decide +kernel
theorem dX11_filtered_52 : decode cX11_filtered 52 = .ok (.iconst 0, 1) := by decide +kernel
theorem dX11_filtered_53 : decode cX11_filtered 53 = .ok (.istore 5, 2) := by decide +kernel
theorem dX11_filtered_55 : decode cX11_filtered 55 = .ok (.iload 5, 2) := by decide +kernel
theorem dX11_filtered_57 : decode cX11_filtered 57 = .ok (.iload_n 2, 1) := by decide +kernel
theorem dX11_filtered_58 : decode cX11_filtered 58 = .ok (.if_icmp .ge 25, 3) := by decide +kernel
theorem dX11_filtered_61 : decode cX11_filtered 61 = .ok (.lload_n 3, 1) := by decide +kernel
theorem dX11_filtered_62 : decode cX11_filtered 62 = .ok (.aload_n 0, 1) := by decide +kernel
theorem dX11_filtered_63 : decode cX11_filtered 63 = .ok (.getfield 50, 3) := by decide +kernel
theorem dX11_filtered_66 : decode cX11_filtered 66 = .ok (.bipush 9, 2) := by decide +kernel
theorem dX11_filtered_68 : decode cX11_filtered 68 = .ok (.iload_n 1, 1) := by decide +kernel
theorem dX11_filtered_69 : decode cX11_filtered 69 = .ok (.imul, 1) := by decide +kernel
theorem dX11_filtered_70 : decode cX11_filtered 70 = .ok (.iload 5, 2) := by decide +kernel
theorem dX11_filtered_72 : decode cX11_filtered 72 = .ok (.iadd, 1) := by decide +kernel
theorem dX11_filtered_73 : decode cX11_filtered 73 = .ok (.iaload, 1) := by decide +kernel
theorem dX11_filtered_74 : decode cX11_filtered 74 = .ok (.i2l, 1) := by decide +kernel
theorem dX11_filtered_75 : decode cX11_filtered 75 = .ok (.ladd, 1) := by decide +kernel
theorem dX11_filtered_76 : decode cX11_filtered 76 = .ok (.lstore_n 3, 1) := by decide +kernel
theorem dX11_filtered_77 : decode cX11_filtered 77 = .ok (.iinc 5 1, 3) := by decide +kernel
theorem dX11_filtered_80 : decode cX11_filtered 80 = .ok (.goto (-25), 3) := by decide +kernel
theorem dX11_filtered_83 : decode cX11_filtered 83 = .ok (.aload_n 0, 1) := by decide +kernel
theorem dX11_filtered_84 : decode cX11_filtered 84 = .ok (.getfield 41, 3) := by decide +kernel
theorem dX11_filtered_87 : decode cX11_filtered 87 = .ok (.iload_n 1, 1) := by decide +kernel
theorem dX11_filtered_88 : decode cX11_filtered 88 = .ok (.iaload, 1) := by decide +kernel
theorem dX11_filtered_89 : decode cX11_filtered 89 = .ok (.iconst 2, 1) := by decide +kernel
theorem dX11_filtered_90 : decode cX11_filtered 90 = .ok (.if_icmp .ne 11, 3) := by decide +kernel
theorem dX11_filtered_93 : decode cX11_filtered 93 = .ok (.lload_n 3, 1) := by decide +kernel
theorem dX11_filtered_94 : decode cX11_filtered 94 = .ok (.iload_n 2, 1) := by decide +kernel
theorem dX11_filtered_95 : decode cX11_filtered 95 = .ok (.i2l, 1) := by decide +kernel
theorem dX11_filtered_96 : decode cX11_filtered 96 = .ok (.invokestatic 104, 3) := by decide +kernel
theorem dX11_filtered_99 : decode cX11_filtered 99 = .ok (.l2i, 1) := by decide +kernel
theorem dX11_filtered_100 : decode cX11_filtered 100 = .ok (.ireturn, 1) := by decide +kernel
theorem dX11_filtered_101 : decode cX11_filtered 101 = .ok (.iconst 0, 1) := by decide +kernel
theorem dX11_filtered_102 : decode cX11_filtered 102 = .ok (.istore 5, 2) := by decide +kernel
theorem dX11_filtered_104 : decode cX11_filtered 104 = .ok (.iload 5, 2) := by decide +kernel
theorem dX11_filtered_106 : decode cX11_filtered 106 = .ok (.iload_n 2, 1) := by decide +kernel
theorem dX11_filtered_107 : decode cX11_filtered 107 = .ok (.if_icmp .ge 140, 3) := by decide +kernel
theorem dX11_filtered_110 : decode cX11_filtered 110 = .ok (.iconst 0, 1) := by decide +kernel
theorem dX11_filtered_111 : decode cX11_filtered 111 = .ok (.istore 6, 2) := by decide +kernel
theorem dX11_filtered_113 : decode cX11_filtered 113 = .ok (.iconst 0, 1) := by decide +kernel
theorem dX11_filtered_114 : decode cX11_filtered 114 = .ok (.istore 7, 2) := by decide +kernel
theorem dX11_filtered_116 : decode cX11_filtered 116 = .ok (.iconst 0, 1) := by decide +kernel
theorem dX11_filtered_117 : decode cX11_filtered 117 = .ok (.istore 8, 2) := by decide +kernel
theorem dX11_filtered_119 : decode cX11_filtered 119 = .ok (.iload 8, 2) := by decide +kernel
theorem dX11_filtered_121 : decode cX11_filtered 121 = .ok (.iload_n 2, 1) := by decide +kernel
theorem dX11_filtered_122 : decode cX11_filtered 122 = .ok (.if_icmp .ge 83, 3) := by decide +kernel
theorem dX11_filtered_125 : decode cX11_filtered 125 = .ok (.iload 6, 2) := by decide +kernel
theorem dX11_filtered_127 : decode cX11_filtered 127 = .ok (.aload_n 0, 1) := by decide +kernel
theorem dX11_filtered_128 : decode cX11_filtered 128 = .ok (.getfield 50, 3) := by decide +kernel
theorem dX11_filtered_131 : decode cX11_filtered 131 = .ok (.bipush 9, 2) := by decide +kernel
theorem dX11_filtered_133 : decode cX11_filtered 133 = .ok (.iload_n 1, 1) := by decide +kernel
theorem dX11_filtered_134 : decode cX11_filtered 134 = .ok (.imul, 1) := by decide +kernel
theorem dX11_filtered_135 : decode cX11_filtered 135 = .ok (.iload 8, 2) := by decide +kernel
theorem dX11_filtered_137 : decode cX11_filtered 137 = .ok (.iadd, 1) := by decide +kernel
theorem dX11_filtered_138 : decode cX11_filtered 138 = .ok (.iaload, 1) := by decide +kernel
theorem dX11_filtered_139 : decode cX11_filtered 139 = .ok (.aload_n 0, 1) := by decide +kernel
theorem dX11_filtered_140 : decode cX11_filtered 140 = .ok (.getfield 50, 3) := by decide +kernel
theorem dX11_filtered_143 : decode cX11_filtered 143 = .ok (.bipush 9, 2) := by decide +kernel
theorem dX11_filtered_145 : decode cX11_filtered 145 = .ok (.iload_n 1, 1) := by decide +kernel
theorem dX11_filtered_146 : decode cX11_filtered 146 = .ok (.imul, 1) := by decide +kernel
theorem dX11_filtered_147 : decode cX11_filtered 147 = .ok (.iload 5, 2) := by decide +kernel
theorem dX11_filtered_149 : decode cX11_filtered 149 = .ok (.iadd, 1) := by decide +kernel
theorem dX11_filtered_150 : decode cX11_filtered 150 = .ok (.iaload, 1) := by decide +kernel
theorem dX11_filtered_151 : decode cX11_filtered 151 = .ok (.if_icmp .ge 7, 3) := by decide +kernel
theorem dX11_filtered_154 : decode cX11_filtered 154 = .ok (.iconst 1, 1) := by decide +kernel
theorem dX11_filtered_155 : decode cX11_filtered 155 = .ok (.goto 4, 3) := by decide +kernel
theorem dX11_filtered_158 : decode cX11_filtered 158 = .ok (.iconst 0, 1) := by decide +kernel
theorem dX11_filtered_159 : decode cX11_filtered 159 = .ok (.iadd, 1) := by decide +kernel
theorem dX11_filtered_160 : decode cX11_filtered 160 = .ok (.istore 6, 2) := by decide +kernel
theorem dX11_filtered_162 : decode cX11_filtered 162 = .ok (.iload 7, 2) := by decide +kernel
theorem dX11_filtered_164 : decode cX11_filtered 164 = .ok (.aload_n 0, 1) := by decide +kernel
theorem dX11_filtered_165 : decode cX11_filtered 165 = .ok (.getfield 50, 3) := by decide +kernel
theorem dX11_filtered_168 : decode cX11_filtered 168 = .ok (.bipush 9, 2) := by decide +kernel
theorem dX11_filtered_170 : decode cX11_filtered 170 = .ok (.iload_n 1, 1) := by decide +kernel
theorem dX11_filtered_171 : decode cX11_filtered 171 = .ok (.imul, 1) := by decide +kernel
theorem dX11_filtered_172 : decode cX11_filtered 172 = .ok (.iload 8, 2) := by decide +kernel
theorem dX11_filtered_174 : decode cX11_filtered 174 = .ok (.iadd, 1) := by decide +kernel
theorem dX11_filtered_175 : decode cX11_filtered 175 = .ok (.iaload, 1) := by decide +kernel
theorem dX11_filtered_176 : decode cX11_filtered 176 = .ok (.aload_n 0, 1) := by decide +kernel
theorem dX11_filtered_177 : decode cX11_filtered 177 = .ok (.getfield 50, 3) := by decide +kernel
theorem dX11_filtered_180 : decode cX11_filtered 180 = .ok (.bipush 9, 2) := by decide +kernel
theorem dX11_filtered_182 : decode cX11_filtered 182 = .ok (.iload_n 1, 1) := by decide +kernel
theorem dX11_filtered_183 : decode cX11_filtered 183 = .ok (.imul, 1) := by decide +kernel
theorem dX11_filtered_184 : decode cX11_filtered 184 = .ok (.iload 5, 2) := by decide +kernel
theorem dX11_filtered_186 : decode cX11_filtered 186 = .ok (.iadd, 1) := by decide +kernel
theorem dX11_filtered_187 : decode cX11_filtered 187 = .ok (.iaload, 1) := by decide +kernel
theorem dX11_filtered_188 : decode cX11_filtered 188 = .ok (.if_icmp .ne 7, 3) := by decide +kernel
theorem dX11_filtered_191 : decode cX11_filtered 191 = .ok (.iconst 1, 1) := by decide +kernel
theorem dX11_filtered_192 : decode cX11_filtered 192 = .ok (.goto 4, 3) := by decide +kernel
theorem dX11_filtered_195 : decode cX11_filtered 195 = .ok (.iconst 0, 1) := by decide +kernel
theorem dX11_filtered_196 : decode cX11_filtered 196 = .ok (.iadd, 1) := by decide +kernel
theorem dX11_filtered_197 : decode cX11_filtered 197 = .ok (.istore 7, 2) := by decide +kernel
theorem dX11_filtered_199 : decode cX11_filtered 199 = .ok (.iinc 8 1, 3) := by decide +kernel
theorem dX11_filtered_202 : decode cX11_filtered 202 = .ok (.goto (-83), 3) := by decide +kernel
theorem dX11_filtered_205 : decode cX11_filtered 205 = .ok (.iload 6, 2) := by decide +kernel
theorem dX11_filtered_207 : decode cX11_filtered 207 = .ok (.iload_n 2, 1) := by decide +kernel
theorem dX11_filtered_208 : decode cX11_filtered 208 = .ok (.iconst 1, 1) := by decide +kernel
theorem dX11_filtered_209 : decode cX11_filtered 209 = .ok (.isub, 1) := by decide +kernel
theorem dX11_filtered_210 : decode cX11_filtered 210 = .ok (.iconst 2, 1) := by decide +kernel
theorem dX11_filtered_211 : decode cX11_filtered 211 = .ok (.idiv, 1) := by decide +kernel
theorem dX11_filtered_212 : decode cX11_filtered 212 = .ok (.if_icmp .gt 29, 3) := by decide +kernel
theorem dX11_filtered_215 : decode cX11_filtered 215 = .ok (.iload 6, 2) := by decide +kernel
theorem dX11_filtered_217 : decode cX11_filtered 217 = .ok (.iload 7, 2) := by decide +kernel
theorem dX11_filtered_219 : decode cX11_filtered 219 = .ok (.iadd, 1) := by decide +kernel
theorem dX11_filtered_220 : decode cX11_filtered 220 = .ok (.iload_n 2, 1) := by decide +kernel
theorem dX11_filtered_221 : decode cX11_filtered 221 = .ok (.iconst 1, 1) := by decide +kernel
theorem dX11_filtered_222 : decode cX11_filtered 222 = .ok (.isub, 1) := by decide +kernel
theorem dX11_filtered_223 : decode cX11_filtered 223 = .ok (.iconst 2, 1) := by decide +kernel
theorem dX11_filtered_224 : decode cX11_filtered 224 = .ok (.idiv, 1) := by decide +kernel
theorem dX11_filtered_225 : decode cX11_filtered 225 = .ok (.if_icmp .le 16, 3) := by decide +kernel
theorem dX11_filtered_228 : decode cX11_filtered 228 = .ok (.aload_n 0, 1) := by decide +kernel
theorem dX11_filtered_229 : decode cX11_filtered 229 = .ok (.getfield 50, 3) := by decide +kernel
theorem dX11_filtered_232 : decode cX11_filtered 232 = .ok (.bipush 9, 2) := by decide +kernel
theorem dX11_filtered_234 : decode cX11_filtered 234 = .ok (.iload_n 1, 1) := by decide +kernel
theorem dX11_filtered_235 : decode cX11_filtered 235 = .ok (.imul, 1) := by decide +kernel
theorem dX11_filtered_236 : decode cX11_filtered 236 = .ok (.iload 5, 2) := by decide +kernel
theorem dX11_filtered_238 : decode cX11_filtered 238 = .ok (.iadd, 1) := by decide +kernel
theorem dX11_filtered_239 : decode cX11_filtered 239 = .ok (.iaload, 1) := by decide +kernel
theorem dX11_filtered_240 : decode cX11_filtered 240 = .ok (.ireturn, 1) := by decide +kernel
theorem dX11_filtered_241 : decode cX11_filtered 241 = .ok (.iinc 5 1, 3) := by decide +kernel
theorem dX11_filtered_244 : decode cX11_filtered 244 = .ok (.goto (-140), 3) := by decide +kernel
theorem dX11_filtered_247 : decode cX11_filtered 247 = .ok (.iconst 0, 1) := by decide +kernel
theorem dX11_filtered_248 : decode cX11_filtered 248 = .ok (.ireturn, 1) := by decide +kernel
theorem dX11_probed_0 : decode cX11_probed 0 = .ok (.iload_n 1, 1) := by decide +kernel
theorem dX11_probed_1 : decode cX11_probed 1 = .ok (.invokestatic 151, 3) := by decide +kernel
theorem dX11_probed_4 : decode cX11_probed 4 = .ok (.ifCond .eq 40, 3) := by decide +kernel
theorem dX11_probed_7 : decode cX11_probed 7 = .ok (.aload_n 0, 1) := by decide +kernel
theorem dX11_probed_8 : decode cX11_probed 8 = .ok (.getfield 38, 3) := by decide +kernel
theorem dX11_probed_11 : decode cX11_probed 11 = .ok (.iload_n 1, 1) := by decide +kernel
theorem dX11_probed_12 : decode cX11_probed 12 = .ok (.iaload, 1) := by decide +kernel
theorem dX11_probed_13 : decode cX11_probed 13 = .ok (.ifCond .lt 31, 3) := by decide +kernel
theorem dX11_probed_16 : decode cX11_probed 16 = .ok (.aload_n 0, 1) := by decide +kernel
theorem dX11_probed_17 : decode cX11_probed 17 = .ok (.getfield 47, 3) := by decide +kernel
theorem dX11_probed_20 : decode cX11_probed 20 = .ok (.iload_n 1, 1) := by decide +kernel
theorem dX11_probed_21 : decode cX11_probed 21 = .ok (.iaload, 1) := by decide +kernel
theorem dX11_probed_22 : decode cX11_probed 22 = .ok (.ifCond .le 22, 3) := by decide +kernel
theorem dX11_probed_25 : decode cX11_probed 25 = .ok (.aload_n 0, 1) := by decide +kernel
theorem dX11_probed_26 : decode cX11_probed 26 = .ok (.aload_n 0, 1) := by decide +kernel
theorem dX11_probed_27 : decode cX11_probed 27 = .ok (.getfield 38, 3) := by decide +kernel
theorem dX11_probed_30 : decode cX11_probed 30 = .ok (.iload_n 1, 1) := by decide +kernel
theorem dX11_probed_31 : decode cX11_probed 31 = .ok (.iaload, 1) := by decide +kernel
theorem dX11_probed_32 : decode cX11_probed 32 = .ok (.aload_n 0, 1) := by decide +kernel
theorem dX11_probed_33 : decode cX11_probed 33 = .ok (.getfield 53, 3) := by decide +kernel
theorem dX11_probed_36 : decode cX11_probed 36 = .ok (.iload_n 1, 1) := by decide +kernel
theorem dX11_probed_37 : decode cX11_probed 37 = .ok (.iaload, 1) := by decide +kernel
theorem dX11_probed_38 : decode cX11_probed 38 = .ok (.invokevirtual 127, 3) := by decide +kernel
theorem dX11_probed_41 : decode cX11_probed 41 = .ok (.goto 5, 3) := by decide +kernel
theorem dX11_probed_44 : decode cX11_probed 44 = .ok (.ldc 130, 2) := by decide +kernel
theorem dX11_probed_46 : decode cX11_probed 46 = .ok (.ireturn, 1) := by decide +kernel
theorem dX11_table_0 : decode cX11_table 0 = .ok (.iload_n 1, 1) := by decide +kernel
theorem dX11_table_1 : decode cX11_table 1 = .ok (.invokestatic 151, 3) := by decide +kernel
theorem dX11_table_4 : decode cX11_table 4 = .ok (.ifCond .eq 30, 3) := by decide +kernel
theorem dX11_table_7 : decode cX11_table 7 = .ok (.aload_n 0, 1) := by decide +kernel
theorem dX11_table_8 : decode cX11_table 8 = .ok (.iload_n 2, 1) := by decide +kernel
theorem dX11_table_9 : decode cX11_table 9 = .ok (.invokevirtual 118, 3) := by decide +kernel
theorem dX11_table_12 : decode cX11_table 12 = .ok (.ifCond .eq 22, 3) := by decide +kernel
theorem dX11_table_15 : decode cX11_table 15 = .ok (.iload_n 3, 1) := by decide +kernel
theorem dX11_table_16 : decode cX11_table 16 = .ok (.bipush 16, 2) := by decide +kernel
theorem dX11_table_18 : decode cX11_table 18 = .ok (.if_icmp .eq 19, 3) := by decide +kernel
theorem dX11_table_21 : decode cX11_table 21 = .ok (.iload_n 3, 1) := by decide +kernel
theorem dX11_table_22 : decode cX11_table 22 = .ok (.bipush 64, 2) := by decide +kernel
theorem dX11_table_24 : decode cX11_table 24 = .ok (.if_icmp .eq 13, 3) := by decide +kernel
theorem dX11_table_27 : decode cX11_table 27 = .ok (.iload_n 3, 1) := by decide +kernel
theorem dX11_table_28 : decode cX11_table 28 = .ok (.sipush 256, 3) := by decide +kernel
theorem dX11_table_31 : decode cX11_table 31 = .ok (.if_icmp .eq 6, 3) := by decide +kernel
theorem dX11_table_34 : decode cX11_table 34 = .ok (.bipush (-2), 2) := by decide +kernel
theorem dX11_table_36 : decode cX11_table 36 = .ok (.ireturn, 1) := by decide +kernel
theorem dX11_table_37 : decode cX11_table 37 = .ok (.aload_n 0, 1) := by decide +kernel
theorem dX11_table_38 : decode cX11_table 38 = .ok (.getfield 56, 3) := by decide +kernel
theorem dX11_table_41 : decode cX11_table 41 = .ok (.iload_n 1, 1) := by decide +kernel
theorem dX11_table_42 : decode cX11_table 42 = .ok (.iload_n 2, 1) := by decide +kernel
theorem dX11_table_43 : decode cX11_table 43 = .ok (.iastore, 1) := by decide +kernel
theorem dX11_table_44 : decode cX11_table 44 = .ok (.aload_n 0, 1) := by decide +kernel
theorem dX11_table_45 : decode cX11_table 45 = .ok (.getfield 59, 3) := by decide +kernel
theorem dX11_table_48 : decode cX11_table 48 = .ok (.iload_n 1, 1) := by decide +kernel
theorem dX11_table_49 : decode cX11_table 49 = .ok (.iload_n 3, 1) := by decide +kernel
theorem dX11_table_50 : decode cX11_table 50 = .ok (.iastore, 1) := by decide +kernel
theorem dX11_table_51 : decode cX11_table 51 = .ok (.sipush 4096, 3) := by decide +kernel
theorem dX11_table_54 : decode cX11_table 54 = .ok (.iload_n 3, 1) := by decide +kernel
theorem dX11_table_55 : decode cX11_table 55 = .ok (.idiv, 1) := by decide +kernel
theorem dX11_table_56 : decode cX11_table 56 = .ok (.iconst 1, 1) := by decide +kernel
theorem dX11_table_57 : decode cX11_table 57 = .ok (.iadd, 1) := by decide +kernel
theorem dX11_table_58 : decode cX11_table 58 = .ok (.istore 4, 2) := by decide +kernel
theorem dX11_table_60 : decode cX11_table 60 = .ok (.iconst 0, 1) := by decide +kernel
theorem dX11_table_61 : decode cX11_table 61 = .ok (.istore 5, 2) := by decide +kernel
theorem dX11_table_63 : decode cX11_table 63 = .ok (.iload 5, 2) := by decide +kernel
theorem dX11_table_65 : decode cX11_table 65 = .ok (.iload 4, 2) := by decide +kernel
theorem dX11_table_67 : decode cX11_table 67 = .ok (.if_icmp .ge 55, 3) := by decide +kernel
theorem dX11_table_70 : decode cX11_table 70 = .ok (.iload 5, 2) := by decide +kernel
theorem dX11_table_72 : decode cX11_table 72 = .ok (.iload_n 3, 1) := by decide +kernel
theorem dX11_table_73 : decode cX11_table 73 = .ok (.imul, 1) := by decide +kernel
theorem dX11_table_74 : decode cX11_table 74 = .ok (.sipush 4095, 3) := by decide +kernel
theorem dX11_table_77 : decode cX11_table 77 = .ok (.if_icmp .le 9, 3) := by decide +kernel
theorem dX11_table_80 : decode cX11_table 80 = .ok (.sipush 4095, 3) := by decide +kernel
theorem dX11_table_83 : decode cX11_table 83 = .ok (.goto 7, 3) := by decide +kernel
theorem dX11_table_86 : decode cX11_table 86 = .ok (.iload 5, 2) := by decide +kernel
theorem dX11_table_88 : decode cX11_table 88 = .ok (.iload_n 3, 1) := by decide +kernel
theorem dX11_table_89 : decode cX11_table 89 = .ok (.imul, 1) := by decide +kernel
theorem dX11_table_90 : decode cX11_table 90 = .ok (.istore 6, 2) := by decide +kernel
theorem dX11_table_92 : decode cX11_table 92 = .ok (.aload_n 0, 1) := by decide +kernel
theorem dX11_table_93 : decode cX11_table 93 = .ok (.getfield 62, 3) := by decide +kernel
theorem dX11_table_96 : decode cX11_table 96 = .ok (.sipush 257, 3) := by decide +kernel
theorem dX11_table_99 : decode cX11_table 99 = .ok (.iload_n 1, 1) := by decide +kernel
theorem dX11_table_100 : decode cX11_table 100 = .ok (.imul, 1) := by decide +kernel
theorem dX11_table_101 : decode cX11_table 101 = .ok (.iload 5, 2) := by decide +kernel
theorem dX11_table_103 : decode cX11_table 103 = .ok (.iadd, 1) := by decide +kernel
theorem dX11_table_104 : decode cX11_table 104 = .ok (.aload_n 0, 1) := by decide +kernel
theorem dX11_table_105 : decode cX11_table 105 = .ok (.iload_n 2, 1) := by decide +kernel
theorem dX11_table_106 : decode cX11_table 106 = .ok (.iload 6, 2) := by decide +kernel
theorem dX11_table_108 : decode cX11_table 108 = .ok (.invokevirtual 127, 3) := by decide +kernel
theorem dX11_table_111 : decode cX11_table 111 = .ok (.i2f, 1) := by decide +kernel
theorem dX11_table_112 : decode cX11_table 112 = .ok (.ldc 157, 2) := by decide +kernel
theorem dX11_table_114 : decode cX11_table 114 = .ok (.fmul, 1) := by decide +kernel
theorem dX11_table_115 : decode cX11_table 115 = .ok (.fastore, 1) := by decide +kernel
theorem dX11_table_116 : decode cX11_table 116 = .ok (.iinc 5 1, 3) := by decide +kernel
theorem dX11_table_119 : decode cX11_table 119 = .ok (.goto (-56), 3) := by decide +kernel
theorem dX11_table_122 : decode cX11_table 122 = .ok (.iload 4, 2) := by decide +kernel
theorem dX11_table_124 : decode cX11_table 124 = .ok (.ireturn, 1) := by decide +kernel
theorem dX11_isTable_0 : decode cX11_isTable 0 = .ok (.iload_n 1, 1) := by decide +kernel
theorem dX11_isTable_1 : decode cX11_isTable 1 = .ok (.invokestatic 151, 3) := by decide +kernel
theorem dX11_isTable_4 : decode cX11_isTable 4 = .ok (.ifCond .eq 16, 3) := by decide +kernel
theorem dX11_isTable_7 : decode cX11_isTable 7 = .ok (.aload_n 0, 1) := by decide +kernel
theorem dX11_isTable_8 : decode cX11_isTable 8 = .ok (.getfield 56, 3) := by decide +kernel
theorem dX11_isTable_11 : decode cX11_isTable 11 = .ok (.iload_n 1, 1) := by decide +kernel
theorem dX11_isTable_12 : decode cX11_isTable 12 = .ok (.iaload, 1) := by decide +kernel
theorem dX11_isTable_13 : decode cX11_isTable 13 = .ok (.ifCond .lt 7, 3) := by decide +kernel
theorem dX11_isTable_16 : decode cX11_isTable 16 = .ok (.iconst 1, 1) := by decide +kernel
theorem dX11_isTable_17 : decode cX11_isTable 17 = .ok (.goto 4, 3) := by decide +kernel
theorem dX11_isTable_20 : decode cX11_isTable 20 = .ok (.iconst 0, 1) := by decide +kernel
theorem dX11_isTable_21 : decode cX11_isTable 21 = .ok (.ireturn, 1) := by decide +kernel
theorem dX11_entry_0 : decode cX11_entry 0 = .ok (.aload_n 0, 1) := by decide +kernel
theorem dX11_entry_1 : decode cX11_entry 1 = .ok (.iload_n 1, 1) := by decide +kernel
theorem dX11_entry_2 : decode cX11_entry 2 = .ok (.invokevirtual 158, 3) := by decide +kernel
theorem dX11_entry_5 : decode cX11_entry 5 = .ok (.ifCond .eq 37, 3) := by decide +kernel
theorem dX11_entry_8 : decode cX11_entry 8 = .ok (.iload_n 2, 1) := by decide +kernel
theorem dX11_entry_9 : decode cX11_entry 9 = .ok (.ifCond .lt 33, 3) := by decide +kernel
theorem dX11_entry_12 : decode cX11_entry 12 = .ok (.iload_n 2, 1) := by decide +kernel
theorem dX11_entry_13 : decode cX11_entry 13 = .ok (.sipush 4096, 3) := by decide +kernel
theorem dX11_entry_16 : decode cX11_entry 16 = .ok (.aload_n 0, 1) := by decide +kernel
theorem dX11_entry_17 : decode cX11_entry 17 = .ok (.getfield 59, 3) := by decide +kernel
theorem dX11_entry_20 : decode cX11_entry 20 = .ok (.iload_n 1, 1) := by decide +kernel
theorem dX11_entry_21 : decode cX11_entry 21 = .ok (.iaload, 1) := by decide +kernel
theorem dX11_entry_22 : decode cX11_entry 22 = .ok (.idiv, 1) := by decide +kernel
theorem dX11_entry_23 : decode cX11_entry 23 = .ok (.if_icmp .gt 19, 3) := by decide +kernel
theorem dX11_entry_26 : decode cX11_entry 26 = .ok (.aload_n 0, 1) := by decide +kernel
theorem dX11_entry_27 : decode cX11_entry 27 = .ok (.getfield 62, 3) := by decide +kernel
theorem dX11_entry_30 : decode cX11_entry 30 = .ok (.sipush 257, 3) := by decide +kernel
theorem dX11_entry_33 : decode cX11_entry 33 = .ok (.iload_n 1, 1) := by decide +kernel
theorem dX11_entry_34 : decode cX11_entry 34 = .ok (.imul, 1) := by decide +kernel
theorem dX11_entry_35 : decode cX11_entry 35 = .ok (.iload_n 2, 1) := by decide +kernel
theorem dX11_entry_36 : decode cX11_entry 36 = .ok (.iadd, 1) := by decide +kernel
theorem dX11_entry_37 : decode cX11_entry 37 = .ok (.faload, 1) := by decide +kernel
theorem dX11_entry_38 : decode cX11_entry 38 = .ok (.f2d, 1) := by decide +kernel
theorem dX11_entry_39 : decode cX11_entry 39 = .ok (.goto 6, 3) := by decide +kernel
theorem dX11_entry_42 : decode cX11_entry 42 = .ok (.ldc2_w 161, 3) := by decide +kernel
theorem dX11_entry_45 : decode cX11_entry 45 = .ok (.dreturn, 1) := by decide +kernel
theorem dX11_looked_0 : decode cX11_looked 0 = .ok (.aload_n 0, 1) := by decide +kernel
theorem dX11_looked_1 : decode cX11_looked 1 = .ok (.getfield 59, 3) := by decide +kernel
theorem dX11_looked_4 : decode cX11_looked 4 = .ok (.iload_n 1, 1) := by decide +kernel
theorem dX11_looked_5 : decode cX11_looked 5 = .ok (.iaload, 1) := by decide +kernel
theorem dX11_looked_6 : decode cX11_looked 6 = .ok (.istore_n 3, 1) := by decide +kernel
theorem dX11_looked_7 : decode cX11_looked 7 = .ok (.iload_n 2, 1) := by decide +kernel
theorem dX11_looked_8 : decode cX11_looked 8 = .ok (.iload_n 3, 1) := by decide +kernel
theorem dX11_looked_9 : decode cX11_looked 9 = .ok (.idiv, 1) := by decide +kernel
theorem dX11_looked_10 : decode cX11_looked 10 = .ok (.istore 4, 2) := by decide +kernel
theorem dX11_looked_12 : decode cX11_looked 12 = .ok (.aload_n 0, 1) := by decide +kernel
theorem dX11_looked_13 : decode cX11_looked 13 = .ok (.getfield 62, 3) := by decide +kernel
theorem dX11_looked_16 : decode cX11_looked 16 = .ok (.sipush 257, 3) := by decide +kernel
theorem dX11_looked_19 : decode cX11_looked 19 = .ok (.iload_n 1, 1) := by decide +kernel
theorem dX11_looked_20 : decode cX11_looked 20 = .ok (.imul, 1) := by decide +kernel
theorem dX11_looked_21 : decode cX11_looked 21 = .ok (.iload 4, 2) := by decide +kernel
theorem dX11_looked_23 : decode cX11_looked 23 = .ok (.iadd, 1) := by decide +kernel
theorem dX11_looked_24 : decode cX11_looked 24 = .ok (.faload, 1) := by decide +kernel
theorem dX11_looked_25 : decode cX11_looked 25 = .ok (.fstore 5, 2) := by decide +kernel
theorem dX11_looked_27 : decode cX11_looked 27 = .ok (.aload_n 0, 1) := by decide +kernel
theorem dX11_looked_28 : decode cX11_looked 28 = .ok (.getfield 62, 3) := by decide +kernel
theorem dX11_looked_31 : decode cX11_looked 31 = .ok (.sipush 257, 3) := by decide +kernel
theorem dX11_looked_34 : decode cX11_looked 34 = .ok (.iload_n 1, 1) := by decide +kernel
theorem dX11_looked_35 : decode cX11_looked 35 = .ok (.imul, 1) := by decide +kernel
theorem dX11_looked_36 : decode cX11_looked 36 = .ok (.iload 4, 2) := by decide +kernel
theorem dX11_looked_38 : decode cX11_looked 38 = .ok (.iadd, 1) := by decide +kernel
theorem dX11_looked_39 : decode cX11_looked 39 = .ok (.iconst 1, 1) := by decide +kernel
theorem dX11_looked_40 : decode cX11_looked 40 = .ok (.iadd, 1) := by decide +kernel
theorem dX11_looked_41 : decode cX11_looked 41 = .ok (.faload, 1) := by decide +kernel
theorem dX11_looked_42 : decode cX11_looked 42 = .ok (.fstore 6, 2) := by decide +kernel
theorem dX11_looked_44 : decode cX11_looked 44 = .ok (.iload_n 2, 1) := by decide +kernel
theorem dX11_looked_45 : decode cX11_looked 45 = .ok (.iload 4, 2) := by decide +kernel
theorem dX11_looked_47 : decode cX11_looked 47 = .ok (.iload_n 3, 1) := by decide +kernel
theorem dX11_looked_48 : decode cX11_looked 48 = .ok (.imul, 1) := by decide +kernel
theorem dX11_looked_49 : decode cX11_looked 49 = .ok (.isub, 1) := by decide +kernel
theorem dX11_looked_50 : decode cX11_looked 50 = .ok (.i2f, 1) := by decide +kernel
theorem dX11_looked_51 : decode cX11_looked 51 = .ok (.iload_n 3, 1) := by decide +kernel
theorem dX11_looked_52 : decode cX11_looked 52 = .ok (.i2f, 1) := by decide +kernel
theorem dX11_looked_53 : decode cX11_looked 53 = .ok (.fdiv, 1) := by decide +kernel
theorem dX11_looked_54 : decode cX11_looked 54 = .ok (.fstore 7, 2) := by decide +kernel
theorem dX11_looked_56 : decode cX11_looked 56 = .ok (.fload 5, 2) := by decide +kernel
theorem dX11_looked_58 : decode cX11_looked 58 = .ok (.fload 6, 2) := by decide +kernel
theorem dX11_looked_60 : decode cX11_looked 60 = .ok (.fload 5, 2) := by decide +kernel
theorem dX11_looked_62 : decode cX11_looked 62 = .ok (.fsub, 1) := by decide +kernel
theorem dX11_looked_63 : decode cX11_looked 63 = .ok (.fload 7, 2) := by decide +kernel
theorem dX11_looked_65 : decode cX11_looked 65 = .ok (.fmul, 1) := by decide +kernel
theorem dX11_looked_66 : decode cX11_looked 66 = .ok (.fadd, 1) := by decide +kernel
theorem dX11_looked_67 : decode cX11_looked 67 = .ok (.freturn, 1) := by decide +kernel
theorem dX11_lookup_0 : decode cX11_lookup 0 = .ok (.aload_n 0, 1) := by decide +kernel
theorem dX11_lookup_1 : decode cX11_lookup 1 = .ok (.iload_n 1, 1) := by decide +kernel
theorem dX11_lookup_2 : decode cX11_lookup 2 = .ok (.invokevirtual 158, 3) := by decide +kernel
theorem dX11_lookup_5 : decode cX11_lookup 5 = .ok (.ifCond .eq 20, 3) := by decide +kernel
theorem dX11_lookup_8 : decode cX11_lookup 8 = .ok (.iload_n 2, 1) := by decide +kernel
theorem dX11_lookup_9 : decode cX11_lookup 9 = .ok (.invokestatic 93, 3) := by decide +kernel
theorem dX11_lookup_12 : decode cX11_lookup 12 = .ok (.ifCond .eq 13, 3) := by decide +kernel
theorem dX11_lookup_15 : decode cX11_lookup 15 = .ok (.aload_n 0, 1) := by decide +kernel
theorem dX11_lookup_16 : decode cX11_lookup 16 = .ok (.iload_n 1, 1) := by decide +kernel
theorem dX11_lookup_17 : decode cX11_lookup 17 = .ok (.iload_n 2, 1) := by decide +kernel
theorem dX11_lookup_18 : decode cX11_lookup 18 = .ok (.invokevirtual 163, 3) := by decide +kernel
theorem dX11_lookup_21 : decode cX11_lookup 21 = .ok (.f2d, 1) := by decide +kernel
theorem dX11_lookup_22 : decode cX11_lookup 22 = .ok (.goto 6, 3) := by decide +kernel
theorem dX11_lookup_25 : decode cX11_lookup 25 = .ok (.ldc2_w 161, 3) := by decide +kernel
theorem dX11_lookup_28 : decode cX11_lookup 28 = .ok (.dreturn, 1) := by decide +kernel
theorem dX11_offBy_0 : decode cX11_offBy 0 = .ok (.aload_n 0, 1) := by decide +kernel
theorem dX11_offBy_1 : decode cX11_offBy 1 = .ok (.iload_n 1, 1) := by decide +kernel
theorem dX11_offBy_2 : decode cX11_offBy 2 = .ok (.iload_n 2, 1) := by decide +kernel
theorem dX11_offBy_3 : decode cX11_offBy 3 = .ok (.invokevirtual 163, 3) := by decide +kernel
theorem dX11_offBy_6 : decode cX11_offBy 6 = .ok (.f2d, 1) := by decide +kernel
theorem dX11_offBy_7 : decode cX11_offBy 7 = .ok (.aload_n 0, 1) := by decide +kernel
theorem dX11_offBy_8 : decode cX11_offBy 8 = .ok (.aload_n 0, 1) := by decide +kernel
theorem dX11_offBy_9 : decode cX11_offBy 9 = .ok (.getfield 56, 3) := by decide +kernel
theorem dX11_offBy_12 : decode cX11_offBy 12 = .ok (.iload_n 1, 1) := by decide +kernel
theorem dX11_offBy_13 : decode cX11_offBy 13 = .ok (.iaload, 1) := by decide +kernel
theorem dX11_offBy_14 : decode cX11_offBy 14 = .ok (.iload_n 2, 1) := by decide +kernel
theorem dX11_offBy_15 : decode cX11_offBy 15 = .ok (.invokevirtual 127, 3) := by decide +kernel
theorem dX11_offBy_18 : decode cX11_offBy 18 = .ok (.i2d, 1) := by decide +kernel
theorem dX11_offBy_19 : decode cX11_offBy 19 = .ok (.ldc2_w 167, 3) := by decide +kernel
theorem dX11_offBy_22 : decode cX11_offBy 22 = .ok (.dmul, 1) := by decide +kernel
theorem dX11_offBy_23 : decode cX11_offBy 23 = .ok (.dsub, 1) := by decide +kernel
theorem dX11_offBy_24 : decode cX11_offBy 24 = .ok (.dstore_n 3, 1) := by decide +kernel
theorem dX11_offBy_25 : decode cX11_offBy 25 = .ok (.dload_n 3, 1) := by decide +kernel
theorem dX11_offBy_26 : decode cX11_offBy 26 = .ok (.dconst 0, 1) := by decide +kernel
theorem dX11_offBy_27 : decode cX11_offBy 27 = .ok (.dcmp .g, 1) := by decide +kernel
theorem dX11_offBy_28 : decode cX11_offBy 28 = .ok (.ifCond .ge 8, 3) := by decide +kernel
theorem dX11_offBy_31 : decode cX11_offBy 31 = .ok (.dload_n 3, 1) := by decide +kernel
theorem dX11_offBy_32 : decode cX11_offBy 32 = .ok (.dneg, 1) := by decide +kernel
theorem dX11_offBy_33 : decode cX11_offBy 33 = .ok (.goto 4, 3) := by decide +kernel
theorem dX11_offBy_36 : decode cX11_offBy 36 = .ok (.dload_n 3, 1) := by decide +kernel
theorem dX11_offBy_37 : decode cX11_offBy 37 = .ok (.dreturn, 1) := by decide +kernel
theorem dX11_mostOff_0 : decode cX11_mostOff 0 = .ok (.iconst 0, 1) := by decide +kernel
theorem dX11_mostOff_1 : decode cX11_mostOff 1 = .ok (.istore_n 2, 1) := by decide +kernel
theorem dX11_mostOff_2 : decode cX11_mostOff 2 = .ok (.iconst 1, 1) := by decide +kernel
theorem dX11_mostOff_3 : decode cX11_mostOff 3 = .ok (.istore_n 3, 1) := by decide +kernel
theorem dX11_mostOff_4 : decode cX11_mostOff 4 = .ok (.iload_n 3, 1) := by decide +kernel
theorem dX11_mostOff_5 : decode cX11_mostOff 5 = .ok (.sipush 4096, 3) := by decide +kernel
theorem dX11_mostOff_8 : decode cX11_mostOff 8 = .ok (.if_icmp .ge 31, 3) := by decide +kernel
theorem dX11_mostOff_11 : decode cX11_mostOff 11 = .ok (.aload_n 0, 1) := by decide +kernel
theorem dX11_mostOff_12 : decode cX11_mostOff 12 = .ok (.iload_n 1, 1) := by decide +kernel
theorem dX11_mostOff_13 : decode cX11_mostOff 13 = .ok (.iload_n 3, 1) := by decide +kernel
theorem dX11_mostOff_14 : decode cX11_mostOff 14 = .ok (.invokevirtual 169, 3) := by decide +kernel
theorem dX11_mostOff_17 : decode cX11_mostOff 17 = .ok (.aload_n 0, 1) := by decide +kernel
theorem dX11_mostOff_18 : decode cX11_mostOff 18 = .ok (.iload_n 1, 1) := by decide +kernel
theorem dX11_mostOff_19 : decode cX11_mostOff 19 = .ok (.iload_n 2, 1) := by decide +kernel
theorem dX11_mostOff_20 : decode cX11_mostOff 20 = .ok (.invokevirtual 169, 3) := by decide +kernel
theorem dX11_mostOff_23 : decode cX11_mostOff 23 = .ok (.dcmp .l, 1) := by decide +kernel
theorem dX11_mostOff_24 : decode cX11_mostOff 24 = .ok (.ifCond .le 7, 3) := by decide +kernel
theorem dX11_mostOff_27 : decode cX11_mostOff 27 = .ok (.iload_n 3, 1) := by decide +kernel
theorem dX11_mostOff_28 : decode cX11_mostOff 28 = .ok (.goto 4, 3) := by decide +kernel
theorem dX11_mostOff_31 : decode cX11_mostOff 31 = .ok (.iload_n 2, 1) := by decide +kernel
theorem dX11_mostOff_32 : decode cX11_mostOff 32 = .ok (.istore_n 2, 1) := by decide +kernel
theorem dX11_mostOff_33 : decode cX11_mostOff 33 = .ok (.iinc 3 1, 3) := by decide +kernel
theorem dX11_mostOff_36 : decode cX11_mostOff 36 = .ok (.goto (-32), 3) := by decide +kernel
theorem dX11_mostOff_39 : decode cX11_mostOff 39 = .ok (.iload_n 2, 1) := by decide +kernel
theorem dX11_mostOff_40 : decode cX11_mostOff 40 = .ok (.ireturn, 1) := by decide +kernel
theorem dX11_off_0 : decode cX11_off 0 = .ok (.aload_n 0, 1) := by decide +kernel
theorem dX11_off_1 : decode cX11_off 1 = .ok (.iload_n 1, 1) := by decide +kernel
theorem dX11_off_2 : decode cX11_off 2 = .ok (.invokevirtual 158, 3) := by decide +kernel
theorem dX11_off_5 : decode cX11_off 5 = .ok (.ifCond .eq 16, 3) := by decide +kernel
theorem dX11_off_8 : decode cX11_off 8 = .ok (.aload_n 0, 1) := by decide +kernel
theorem dX11_off_9 : decode cX11_off 9 = .ok (.iload_n 1, 1) := by decide +kernel
theorem dX11_off_10 : decode cX11_off 10 = .ok (.aload_n 0, 1) := by decide +kernel
theorem dX11_off_11 : decode cX11_off 11 = .ok (.iload_n 1, 1) := by decide +kernel
theorem dX11_off_12 : decode cX11_off 12 = .ok (.invokevirtual 173, 3) := by decide +kernel
theorem dX11_off_15 : decode cX11_off 15 = .ok (.invokevirtual 169, 3) := by decide +kernel
theorem dX11_off_18 : decode cX11_off 18 = .ok (.goto 6, 3) := by decide +kernel
theorem dX11_off_21 : decode cX11_off 21 = .ok (.ldc2_w 161, 3) := by decide +kernel
theorem dX11_off_24 : decode cX11_off 24 = .ok (.dreturn, 1) := by decide +kernel
theorem dX11_offAt_0 : decode cX11_offAt 0 = .ok (.aload_n 0, 1) := by decide +kernel
theorem dX11_offAt_1 : decode cX11_offAt 1 = .ok (.iload_n 1, 1) := by decide +kernel
theorem dX11_offAt_2 : decode cX11_offAt 2 = .ok (.invokevirtual 158, 3) := by decide +kernel
theorem dX11_offAt_5 : decode cX11_offAt 5 = .ok (.ifCond .eq 11, 3) := by decide +kernel
theorem dX11_offAt_8 : decode cX11_offAt 8 = .ok (.aload_n 0, 1) := by decide +kernel
theorem dX11_offAt_9 : decode cX11_offAt 9 = .ok (.iload_n 1, 1) := by decide +kernel
theorem dX11_offAt_10 : decode cX11_offAt 10 = .ok (.invokevirtual 173, 3) := by decide +kernel
theorem dX11_offAt_13 : decode cX11_offAt 13 = .ok (.goto 5, 3) := by decide +kernel
theorem dX11_offAt_16 : decode cX11_offAt 16 = .ok (.bipush (-2), 2) := by decide +kernel
theorem dX11_offAt_18 : decode cX11_offAt 18 = .ok (.ireturn, 1) := by decide +kernel
theorem dX11_isBank_0 : decode cX11_isBank 0 = .ok (.iload_n 0, 1) := by decide +kernel
theorem dX11_isBank_1 : decode cX11_isBank 1 = .ok (.ifCond .lt 13, 3) := by decide +kernel
theorem dX11_isBank_4 : decode cX11_isBank 4 = .ok (.iload_n 0, 1) := by decide +kernel
theorem dX11_isBank_5 : decode cX11_isBank 5 = .ok (.bipush 8, 2) := by decide +kernel
theorem dX11_isBank_7 : decode cX11_isBank 7 = .ok (.if_icmp .ge 7, 3) := by decide +kernel
theorem dX11_isBank_10 : decode cX11_isBank 10 = .ok (.iconst 1, 1) := by decide +kernel
theorem dX11_isBank_11 : decode cX11_isBank 11 = .ok (.goto 4, 3) := by decide +kernel
theorem dX11_isBank_14 : decode cX11_isBank 14 = .ok (.iconst 0, 1) := by decide +kernel
theorem dX11_isBank_15 : decode cX11_isBank 15 = .ok (.ireturn, 1) := by decide +kernel
theorem dX11_bank_0 : decode cX11_bank 0 = .ok (.iload_n 1, 1) := by decide +kernel
theorem dX11_bank_1 : decode cX11_bank 1 = .ok (.invokestatic 176, 3) := by decide +kernel
theorem dX11_bank_4 : decode cX11_bank 4 = .ok (.ifCond .eq 9, 3) := by decide +kernel
theorem dX11_bank_7 : decode cX11_bank 7 = .ok (.iload_n 2, 1) := by decide +kernel
theorem dX11_bank_8 : decode cX11_bank 8 = .ok (.bipush 64, 2) := by decide +kernel
theorem dX11_bank_10 : decode cX11_bank 10 = .ok (.if_icmp .le 7, 3) := by decide +kernel
theorem dX11_bank_13 : decode cX11_bank 13 = .ok (.ldc2_w 149, 3) := by decide +kernel
theorem dX11_bank_16 : decode cX11_bank 16 = .ok (.lreturn, 1) := by decide +kernel
theorem dX11_bank_17 : decode cX11_bank 17 = .ok (.iload_n 2, 1) := by decide +kernel
theorem dX11_bank_18 : decode cX11_bank 18 = .ok (.ifCond .ge 7, 3) := by decide +kernel
theorem dX11_bank_21 : decode cX11_bank 21 = .ok (.ldc2_w 179, 3) := by decide +kernel
theorem dX11_bank_24 : decode cX11_bank 24 = .ok (.lreturn, 1) := by decide +kernel
theorem dX11_bank_25 : decode cX11_bank 25 = .ok (.aload_n 0, 1) := by decide +kernel
theorem dX11_bank_26 : decode cX11_bank 26 = .ok (.getfield 66, 3) := by decide +kernel
theorem dX11_bank_29 : decode cX11_bank 29 = .ok (.iload_n 1, 1) := by decide +kernel
theorem dX11_bank_30 : decode cX11_bank 30 = .ok (.iload_n 2, 1) := by decide +kernel
theorem dX11_bank_31 : decode cX11_bank 31 = .ok (.iastore, 1) := by decide +kernel
theorem dX11_bank_32 : decode cX11_bank 32 = .ok (.iconst 0, 1) := by decide +kernel
theorem dX11_bank_33 : decode cX11_bank 33 = .ok (.istore_n 3, 1) := by decide +kernel
theorem dX11_bank_34 : decode cX11_bank 34 = .ok (.iload_n 3, 1) := by decide +kernel
theorem dX11_bank_35 : decode cX11_bank 35 = .ok (.bipush 64, 2) := by decide +kernel
theorem dX11_bank_37 : decode cX11_bank 37 = .ok (.if_icmp .ge 21, 3) := by decide +kernel
theorem dX11_bank_40 : decode cX11_bank 40 = .ok (.aload_n 0, 1) := by decide +kernel
theorem dX11_bank_41 : decode cX11_bank 41 = .ok (.getfield 69, 3) := by decide +kernel
theorem dX11_bank_44 : decode cX11_bank 44 = .ok (.bipush 64, 2) := by decide +kernel
theorem dX11_bank_46 : decode cX11_bank 46 = .ok (.iload_n 1, 1) := by decide +kernel
theorem dX11_bank_47 : decode cX11_bank 47 = .ok (.imul, 1) := by decide +kernel
theorem dX11_bank_48 : decode cX11_bank 48 = .ok (.iload_n 3, 1) := by decide +kernel
theorem dX11_bank_49 : decode cX11_bank 49 = .ok (.iadd, 1) := by decide +kernel
theorem dX11_bank_50 : decode cX11_bank 50 = .ok (.lconst 0, 1) := by decide +kernel
theorem dX11_bank_51 : decode cX11_bank 51 = .ok (.lastore, 1) := by decide +kernel
theorem dX11_bank_52 : decode cX11_bank 52 = .ok (.iinc 3 1, 3) := by decide +kernel
theorem dX11_bank_55 : decode cX11_bank 55 = .ok (.goto (-21), 3) := by decide +kernel
theorem dX11_bank_58 : decode cX11_bank 58 = .ok (.iload_n 2, 1) := by decide +kernel
theorem dX11_bank_59 : decode cX11_bank 59 = .ok (.i2l, 1) := by decide +kernel
theorem dX11_bank_60 : decode cX11_bank 60 = .ok (.lreturn, 1) := by decide +kernel
theorem dX11_free_0 : decode cX11_free 0 = .ok (.iload_n 1, 1) := by decide +kernel
theorem dX11_free_1 : decode cX11_free 1 = .ok (.invokestatic 176, 3) := by decide +kernel
theorem dX11_free_4 : decode cX11_free 4 = .ok (.ifCond .ne 6, 3) := by decide +kernel
theorem dX11_free_7 : decode cX11_free 7 = .ok (.bipush (-2), 2) := by decide +kernel
theorem dX11_free_9 : decode cX11_free 9 = .ok (.ireturn, 1) := by decide +kernel
theorem dX11_free_10 : decode cX11_free 10 = .ok (.aload_n 0, 1) := by decide +kernel
theorem dX11_free_11 : decode cX11_free 11 = .ok (.getfield 66, 3) := by decide +kernel
theorem dX11_free_14 : decode cX11_free 14 = .ok (.iload_n 1, 1) := by decide +kernel
theorem dX11_free_15 : decode cX11_free 15 = .ok (.iaload, 1) := by decide +kernel
theorem dX11_free_16 : decode cX11_free 16 = .ok (.ifCond .ge 7, 3) := by decide +kernel
theorem dX11_free_19 : decode cX11_free 19 = .ok (.iconst 0, 1) := by decide +kernel
theorem dX11_free_20 : decode cX11_free 20 = .ok (.goto 4, 3) := by decide +kernel
theorem dX11_free_23 : decode cX11_free 23 = .ok (.iconst 1, 1) := by decide +kernel
theorem dX11_free_24 : decode cX11_free 24 = .ok (.istore_n 2, 1) := by decide +kernel
theorem dX11_free_25 : decode cX11_free 25 = .ok (.aload_n 0, 1) := by decide +kernel
theorem dX11_free_26 : decode cX11_free 26 = .ok (.getfield 66, 3) := by decide +kernel
theorem dX11_free_29 : decode cX11_free 29 = .ok (.iload_n 1, 1) := by decide +kernel
theorem dX11_free_30 : decode cX11_free 30 = .ok (.iconst (-1), 1) := by decide +kernel
theorem dX11_free_31 : decode cX11_free 31 = .ok (.iastore, 1) := by decide +kernel
theorem dX11_free_32 : decode cX11_free 32 = .ok (.iload_n 2, 1) := by decide +kernel
theorem dX11_free_33 : decode cX11_free 33 = .ok (.ireturn, 1) := by decide +kernel
theorem dX11_kept_0 : decode cX11_kept 0 = .ok (.iload_n 0, 1) := by decide +kernel
theorem dX11_kept_1 : decode cX11_kept 1 = .ok (.tableswitch 72 0 6 #[43, 48, 53, 58, 62, 64, 68], 43) := by decide +kernel
theorem dX11_kept_44 : decode cX11_kept 44 = .ok (.lload_n 1, 1) := by decide +kernel
theorem dX11_kept_45 : decode cX11_kept 45 = .ok (.l2i, 1) := by decide +kernel
theorem dX11_kept_46 : decode cX11_kept 46 = .ok (.i2b, 1) := by decide +kernel
theorem dX11_kept_47 : decode cX11_kept 47 = .ok (.i2l, 1) := by decide +kernel
theorem dX11_kept_48 : decode cX11_kept 48 = .ok (.lreturn, 1) := by decide +kernel
theorem dX11_kept_49 : decode cX11_kept 49 = .ok (.lload_n 1, 1) := by decide +kernel
theorem dX11_kept_50 : decode cX11_kept 50 = .ok (.l2i, 1) := by decide +kernel
theorem dX11_kept_51 : decode cX11_kept 51 = .ok (.i2c, 1) := by decide +kernel
theorem dX11_kept_52 : decode cX11_kept 52 = .ok (.i2l, 1) := by decide +kernel
theorem dX11_kept_53 : decode cX11_kept 53 = .ok (.lreturn, 1) := by decide +kernel
theorem dX11_kept_54 : decode cX11_kept 54 = .ok (.lload_n 1, 1) := by decide +kernel
theorem dX11_kept_55 : decode cX11_kept 55 = .ok (.l2i, 1) := by decide +kernel
theorem dX11_kept_56 : decode cX11_kept 56 = .ok (.i2s, 1) := by decide +kernel
theorem dX11_kept_57 : decode cX11_kept 57 = .ok (.i2l, 1) := by decide +kernel
theorem dX11_kept_58 : decode cX11_kept 58 = .ok (.lreturn, 1) := by decide +kernel
theorem dX11_kept_59 : decode cX11_kept 59 = .ok (.lload_n 1, 1) := by decide +kernel
theorem dX11_kept_60 : decode cX11_kept 60 = .ok (.l2i, 1) := by decide +kernel
theorem dX11_kept_61 : decode cX11_kept 61 = .ok (.i2l, 1) := by decide +kernel
theorem dX11_kept_62 : decode cX11_kept 62 = .ok (.lreturn, 1) := by decide +kernel
theorem dX11_kept_63 : decode cX11_kept 63 = .ok (.lload_n 1, 1) := by decide +kernel
theorem dX11_kept_64 : decode cX11_kept 64 = .ok (.lreturn, 1) := by decide +kernel
theorem dX11_kept_65 : decode cX11_kept 65 = .ok (.lload_n 1, 1) := by decide +kernel
theorem dX11_kept_66 : decode cX11_kept 66 = .ok (.l2f, 1) := by decide +kernel
theorem dX11_kept_67 : decode cX11_kept 67 = .ok (.f2l, 1) := by decide +kernel
theorem dX11_kept_68 : decode cX11_kept 68 = .ok (.lreturn, 1) := by decide +kernel
theorem dX11_kept_69 : decode cX11_kept 69 = .ok (.lload_n 1, 1) := by decide +kernel
theorem dX11_kept_70 : decode cX11_kept 70 = .ok (.l2d, 1) := by decide +kernel
theorem dX11_kept_71 : decode cX11_kept 71 = .ok (.d2l, 1) := by decide +kernel
theorem dX11_kept_72 : decode cX11_kept 72 = .ok (.lreturn, 1) := by decide +kernel
theorem dX11_kept_73 : decode cX11_kept 73 = .ok (.lload_n 1, 1) := by decide +kernel
theorem dX11_kept_74 : decode cX11_kept 74 = .ok (.lconst 1, 1) := by decide +kernel
theorem dX11_kept_75 : decode cX11_kept 75 = .ok (.land, 1) := by decide +kernel
theorem dX11_kept_76 : decode cX11_kept 76 = .ok (.lreturn, 1) := by decide +kernel
theorem dX11_hold_0 : decode cX11_hold 0 = .ok (.iload_n 1, 1) := by decide +kernel
theorem dX11_hold_1 : decode cX11_hold 1 = .ok (.invokestatic 176, 3) := by decide +kernel
theorem dX11_hold_4 : decode cX11_hold 4 = .ok (.ifCond .ne 7, 3) := by decide +kernel
theorem dX11_hold_7 : decode cX11_hold 7 = .ok (.ldc2_w 149, 3) := by decide +kernel
theorem dX11_hold_10 : decode cX11_hold 10 = .ok (.lreturn, 1) := by decide +kernel
theorem dX11_hold_11 : decode cX11_hold 11 = .ok (.aload_n 0, 1) := by decide +kernel
theorem dX11_hold_12 : decode cX11_hold 12 = .ok (.getfield 66, 3) := by decide +kernel
theorem dX11_hold_15 : decode cX11_hold 15 = .ok (.iload_n 1, 1) := by decide +kernel
theorem dX11_hold_16 : decode cX11_hold 16 = .ok (.iaload, 1) := by decide +kernel
theorem dX11_hold_17 : decode cX11_hold 17 = .ok (.ifCond .ge 7, 3) := by decide +kernel
theorem dX11_hold_20 : decode cX11_hold 20 = .ok (.ldc2_w 181, 3) := by decide +kernel
theorem dX11_hold_23 : decode cX11_hold 23 = .ok (.lreturn, 1) := by decide +kernel
theorem dX11_hold_24 : decode cX11_hold 24 = .ok (.iload_n 2, 1) := by decide +kernel
theorem dX11_hold_25 : decode cX11_hold 25 = .ok (.ifCond .lt 13, 3) := by decide +kernel
theorem dX11_hold_28 : decode cX11_hold 28 = .ok (.iload_n 2, 1) := by decide +kernel
theorem dX11_hold_29 : decode cX11_hold 29 = .ok (.aload_n 0, 1) := by decide +kernel
theorem dX11_hold_30 : decode cX11_hold 30 = .ok (.getfield 66, 3) := by decide +kernel
theorem dX11_hold_33 : decode cX11_hold 33 = .ok (.iload_n 1, 1) := by decide +kernel
theorem dX11_hold_34 : decode cX11_hold 34 = .ok (.iaload, 1) := by decide +kernel
theorem dX11_hold_35 : decode cX11_hold 35 = .ok (.if_icmp .lt 7, 3) := by decide +kernel
theorem dX11_hold_38 : decode cX11_hold 38 = .ok (.ldc2_w 183, 3) := by decide +kernel
theorem dX11_hold_41 : decode cX11_hold 41 = .ok (.lreturn, 1) := by decide +kernel
theorem dX11_hold_42 : decode cX11_hold 42 = .ok (.aload_n 0, 1) := by decide +kernel
theorem dX11_hold_43 : decode cX11_hold 43 = .ok (.getfield 69, 3) := by decide +kernel
theorem dX11_hold_46 : decode cX11_hold 46 = .ok (.bipush 64, 2) := by decide +kernel
theorem dX11_hold_48 : decode cX11_hold 48 = .ok (.iload_n 1, 1) := by decide +kernel
theorem dX11_hold_49 : decode cX11_hold 49 = .ok (.imul, 1) := by decide +kernel
theorem dX11_hold_50 : decode cX11_hold 50 = .ok (.iload_n 2, 1) := by decide +kernel
theorem dX11_hold_51 : decode cX11_hold 51 = .ok (.iadd, 1) := by decide +kernel
theorem dX11_hold_52 : decode cX11_hold 52 = .ok (.iload_n 1, 1) := by decide +kernel
theorem dX11_hold_53 : decode cX11_hold 53 = .ok (.lload_n 3, 1) := by decide +kernel
theorem dX11_hold_54 : decode cX11_hold 54 = .ok (.invokestatic 185, 3) := by decide +kernel
theorem dX11_hold_57 : decode cX11_hold 57 = .ok (.lastore, 1) := by decide +kernel
theorem dX11_hold_58 : decode cX11_hold 58 = .ok (.aload_n 0, 1) := by decide +kernel
theorem dX11_hold_59 : decode cX11_hold 59 = .ok (.getfield 69, 3) := by decide +kernel
theorem dX11_hold_62 : decode cX11_hold 62 = .ok (.bipush 64, 2) := by decide +kernel
theorem dX11_hold_64 : decode cX11_hold 64 = .ok (.iload_n 1, 1) := by decide +kernel
theorem dX11_hold_65 : decode cX11_hold 65 = .ok (.imul, 1) := by decide +kernel
theorem dX11_hold_66 : decode cX11_hold 66 = .ok (.iload_n 2, 1) := by decide +kernel
theorem dX11_hold_67 : decode cX11_hold 67 = .ok (.iadd, 1) := by decide +kernel
theorem dX11_hold_68 : decode cX11_hold 68 = .ok (.laload, 1) := by decide +kernel
theorem dX11_hold_69 : decode cX11_hold 69 = .ok (.lreturn, 1) := by decide +kernel
theorem dX11_held_0 : decode cX11_held 0 = .ok (.iload_n 1, 1) := by decide +kernel
theorem dX11_held_1 : decode cX11_held 1 = .ok (.invokestatic 176, 3) := by decide +kernel
theorem dX11_held_4 : decode cX11_held 4 = .ok (.ifCond .ne 7, 3) := by decide +kernel
theorem dX11_held_7 : decode cX11_held 7 = .ok (.ldc2_w 149, 3) := by decide +kernel
theorem dX11_held_10 : decode cX11_held 10 = .ok (.lreturn, 1) := by decide +kernel
theorem dX11_held_11 : decode cX11_held 11 = .ok (.aload_n 0, 1) := by decide +kernel
theorem dX11_held_12 : decode cX11_held 12 = .ok (.getfield 66, 3) := by decide +kernel
theorem dX11_held_15 : decode cX11_held 15 = .ok (.iload_n 1, 1) := by decide +kernel
theorem dX11_held_16 : decode cX11_held 16 = .ok (.iaload, 1) := by decide +kernel
theorem dX11_held_17 : decode cX11_held 17 = .ok (.ifCond .ge 7, 3) := by decide +kernel
theorem dX11_held_20 : decode cX11_held 20 = .ok (.ldc2_w 181, 3) := by decide +kernel
theorem dX11_held_23 : decode cX11_held 23 = .ok (.lreturn, 1) := by decide +kernel
theorem dX11_held_24 : decode cX11_held 24 = .ok (.iload_n 2, 1) := by decide +kernel
theorem dX11_held_25 : decode cX11_held 25 = .ok (.ifCond .lt 13, 3) := by decide +kernel
theorem dX11_held_28 : decode cX11_held 28 = .ok (.iload_n 2, 1) := by decide +kernel
theorem dX11_held_29 : decode cX11_held 29 = .ok (.aload_n 0, 1) := by decide +kernel
theorem dX11_held_30 : decode cX11_held 30 = .ok (.getfield 66, 3) := by decide +kernel
theorem dX11_held_33 : decode cX11_held 33 = .ok (.iload_n 1, 1) := by decide +kernel
theorem dX11_held_34 : decode cX11_held 34 = .ok (.iaload, 1) := by decide +kernel
theorem dX11_held_35 : decode cX11_held 35 = .ok (.if_icmp .lt 9, 3) := by decide +kernel
theorem dX11_held_38 : decode cX11_held 38 = .ok (.ldc2_w 183, 3) := by decide +kernel
theorem dX11_held_41 : decode cX11_held 41 = .ok (.goto 14, 3) := by decide +kernel
theorem dX11_held_44 : decode cX11_held 44 = .ok (.aload_n 0, 1) := by decide +kernel
theorem dX11_held_45 : decode cX11_held 45 = .ok (.getfield 69, 3) := by decide +kernel
theorem dX11_held_48 : decode cX11_held 48 = .ok (.bipush 64, 2) := by decide +kernel
theorem dX11_held_50 : decode cX11_held 50 = .ok (.iload_n 1, 1) := by decide +kernel
theorem dX11_held_51 : decode cX11_held 51 = .ok (.imul, 1) := by decide +kernel
theorem dX11_held_52 : decode cX11_held 52 = .ok (.iload_n 2, 1) := by decide +kernel
theorem dX11_held_53 : decode cX11_held 53 = .ok (.iadd, 1) := by decide +kernel
theorem dX11_held_54 : decode cX11_held 54 = .ok (.laload, 1) := by decide +kernel
theorem dX11_held_55 : decode cX11_held 55 = .ok (.lreturn, 1) := by decide +kernel
theorem dX11_readings_0 : decode cX11_readings 0 = .ok (.iload_n 1, 1) := by decide +kernel
theorem dX11_readings_1 : decode cX11_readings 1 = .ok (.invokestatic 89, 3) := by decide +kernel
theorem dX11_readings_4 : decode cX11_readings 4 = .ok (.ifCond .eq 12, 3) := by decide +kernel
theorem dX11_readings_7 : decode cX11_readings 7 = .ok (.aload_n 0, 1) := by decide +kernel
theorem dX11_readings_8 : decode cX11_readings 8 = .ok (.getfield 9, 3) := by decide +kernel
theorem dX11_readings_11 : decode cX11_readings 11 = .ok (.iload_n 1, 1) := by decide +kernel
theorem dX11_readings_12 : decode cX11_readings 12 = .ok (.iaload, 1) := by decide +kernel
theorem dX11_readings_13 : decode cX11_readings 13 = .ok (.goto 5, 3) := by decide +kernel
theorem dX11_readings_16 : decode cX11_readings 16 = .ok (.bipush (-2), 2) := by decide +kernel
theorem dX11_readings_18 : decode cX11_readings 18 = .ok (.ireturn, 1) := by decide +kernel
theorem dX11_count_0 : decode cX11_count 0 = .ok (.iconst 0, 1) := by decide +kernel
theorem dX11_count_1 : decode cX11_count 1 = .ok (.istore_n 2, 1) := by decide +kernel
theorem dX11_count_2 : decode cX11_count 2 = .ok (.iload_n 1, 1) := by decide +kernel
theorem dX11_count_3 : decode cX11_count 3 = .ok (.tableswitch 141 0 4 #[33, 38, 43, 76, 108], 33) := by decide +kernel
theorem dX11_count_36 : decode cX11_count 36 = .ok (.aload_n 0, 1) := by decide +kernel
theorem dX11_count_37 : decode cX11_count 37 = .ok (.getfield 85, 3) := by decide +kernel
theorem dX11_count_40 : decode cX11_count 40 = .ok (.ireturn, 1) := by decide +kernel
theorem dX11_count_41 : decode cX11_count 41 = .ok (.aload_n 0, 1) := by decide +kernel
theorem dX11_count_42 : decode cX11_count 42 = .ok (.getfield 111, 3) := by decide +kernel
theorem dX11_count_45 : decode cX11_count 45 = .ok (.ireturn, 1) := by decide +kernel
theorem dX11_count_46 : decode cX11_count 46 = .ok (.iconst 0, 1) := by decide +kernel
theorem dX11_count_47 : decode cX11_count 47 = .ok (.istore_n 3, 1) := by decide +kernel
theorem dX11_count_48 : decode cX11_count 48 = .ok (.iload_n 3, 1) := by decide +kernel
theorem dX11_count_49 : decode cX11_count 49 = .ok (.bipush 8, 2) := by decide +kernel
theorem dX11_count_51 : decode cX11_count 51 = .ok (.if_icmp .ge 26, 3) := by decide +kernel
theorem dX11_count_54 : decode cX11_count 54 = .ok (.iload_n 2, 1) := by decide +kernel
theorem dX11_count_55 : decode cX11_count 55 = .ok (.aload_n 0, 1) := by decide +kernel
theorem dX11_count_56 : decode cX11_count 56 = .ok (.getfield 9, 3) := by decide +kernel
theorem dX11_count_59 : decode cX11_count 59 = .ok (.iload_n 3, 1) := by decide +kernel
theorem dX11_count_60 : decode cX11_count 60 = .ok (.iaload, 1) := by decide +kernel
theorem dX11_count_61 : decode cX11_count 61 = .ok (.ifCond .le 7, 3) := by decide +kernel
theorem dX11_count_64 : decode cX11_count 64 = .ok (.iconst 1, 1) := by decide +kernel
theorem dX11_count_65 : decode cX11_count 65 = .ok (.goto 4, 3) := by decide +kernel
theorem dX11_count_68 : decode cX11_count 68 = .ok (.iconst 0, 1) := by decide +kernel
theorem dX11_count_69 : decode cX11_count 69 = .ok (.iadd, 1) := by decide +kernel
theorem dX11_count_70 : decode cX11_count 70 = .ok (.istore_n 2, 1) := by decide +kernel
theorem dX11_count_71 : decode cX11_count 71 = .ok (.iinc 3 1, 3) := by decide +kernel
theorem dX11_count_74 : decode cX11_count 74 = .ok (.goto (-26), 3) := by decide +kernel
theorem dX11_count_77 : decode cX11_count 77 = .ok (.iload_n 2, 1) := by decide +kernel
theorem dX11_count_78 : decode cX11_count 78 = .ok (.ireturn, 1) := by decide +kernel
theorem dX11_count_79 : decode cX11_count 79 = .ok (.iconst 0, 1) := by decide +kernel
theorem dX11_count_80 : decode cX11_count 80 = .ok (.istore_n 3, 1) := by decide +kernel
theorem dX11_count_81 : decode cX11_count 81 = .ok (.iload_n 3, 1) := by decide +kernel
theorem dX11_count_82 : decode cX11_count 82 = .ok (.iconst 4, 1) := by decide +kernel
theorem dX11_count_83 : decode cX11_count 83 = .ok (.if_icmp .ge 26, 3) := by decide +kernel
theorem dX11_count_86 : decode cX11_count 86 = .ok (.iload_n 2, 1) := by decide +kernel
theorem dX11_count_87 : decode cX11_count 87 = .ok (.aload_n 0, 1) := by decide +kernel
theorem dX11_count_88 : decode cX11_count 88 = .ok (.getfield 56, 3) := by decide +kernel
theorem dX11_count_91 : decode cX11_count 91 = .ok (.iload_n 3, 1) := by decide +kernel
theorem dX11_count_92 : decode cX11_count 92 = .ok (.iaload, 1) := by decide +kernel
theorem dX11_count_93 : decode cX11_count 93 = .ok (.ifCond .lt 7, 3) := by decide +kernel
theorem dX11_count_96 : decode cX11_count 96 = .ok (.iconst 1, 1) := by decide +kernel
theorem dX11_count_97 : decode cX11_count 97 = .ok (.goto 4, 3) := by decide +kernel
theorem dX11_count_100 : decode cX11_count 100 = .ok (.iconst 0, 1) := by decide +kernel
theorem dX11_count_101 : decode cX11_count 101 = .ok (.iadd, 1) := by decide +kernel
theorem dX11_count_102 : decode cX11_count 102 = .ok (.istore_n 2, 1) := by decide +kernel
theorem dX11_count_103 : decode cX11_count 103 = .ok (.iinc 3 1, 3) := by decide +kernel
theorem dX11_count_106 : decode cX11_count 106 = .ok (.goto (-25), 3) := by decide +kernel
theorem dX11_count_109 : decode cX11_count 109 = .ok (.iload_n 2, 1) := by decide +kernel
theorem dX11_count_110 : decode cX11_count 110 = .ok (.ireturn, 1) := by decide +kernel
theorem dX11_count_111 : decode cX11_count 111 = .ok (.iconst 0, 1) := by decide +kernel
theorem dX11_count_112 : decode cX11_count 112 = .ok (.istore_n 3, 1) := by decide +kernel
theorem dX11_count_113 : decode cX11_count 113 = .ok (.iload_n 3, 1) := by decide +kernel
theorem dX11_count_114 : decode cX11_count 114 = .ok (.bipush 8, 2) := by decide +kernel
theorem dX11_count_116 : decode cX11_count 116 = .ok (.if_icmp .ge 26, 3) := by decide +kernel
theorem dX11_count_119 : decode cX11_count 119 = .ok (.iload_n 2, 1) := by decide +kernel
theorem dX11_count_120 : decode cX11_count 120 = .ok (.aload_n 0, 1) := by decide +kernel
theorem dX11_count_121 : decode cX11_count 121 = .ok (.getfield 66, 3) := by decide +kernel
theorem dX11_count_124 : decode cX11_count 124 = .ok (.iload_n 3, 1) := by decide +kernel
theorem dX11_count_125 : decode cX11_count 125 = .ok (.iaload, 1) := by decide +kernel
theorem dX11_count_126 : decode cX11_count 126 = .ok (.ifCond .lt 7, 3) := by decide +kernel
theorem dX11_count_129 : decode cX11_count 129 = .ok (.iconst 1, 1) := by decide +kernel
theorem dX11_count_130 : decode cX11_count 130 = .ok (.goto 4, 3) := by decide +kernel
theorem dX11_count_133 : decode cX11_count 133 = .ok (.iconst 0, 1) := by decide +kernel
theorem dX11_count_134 : decode cX11_count 134 = .ok (.iadd, 1) := by decide +kernel
theorem dX11_count_135 : decode cX11_count 135 = .ok (.istore_n 2, 1) := by decide +kernel
theorem dX11_count_136 : decode cX11_count 136 = .ok (.iinc 3 1, 3) := by decide +kernel
theorem dX11_count_139 : decode cX11_count 139 = .ok (.goto (-26), 3) := by decide +kernel
theorem dX11_count_142 : decode cX11_count 142 = .ok (.iload_n 2, 1) := by decide +kernel
theorem dX11_count_143 : decode cX11_count 143 = .ok (.ireturn, 1) := by decide +kernel
theorem dX11_count_144 : decode cX11_count 144 = .ok (.bipush (-2), 2) := by decide +kernel
theorem dX11_count_146 : decode cX11_count 146 = .ok (.ireturn, 1) := by decide +kernel
theorem dJ9_floorDiv_f86c9_0 : decode cJ9_floorDiv_f86c9 0 = .ok (.lload_n 0, 1) := by decide +kernel
theorem dJ9_floorDiv_f86c9_1 : decode cJ9_floorDiv_f86c9 1 = .ok (.lload_n 2, 1) := by decide +kernel
theorem dJ9_floorDiv_f86c9_2 : decode cJ9_floorDiv_f86c9 2 = .ok (.ldiv, 1) := by decide +kernel
theorem dJ9_floorDiv_f86c9_3 : decode cJ9_floorDiv_f86c9 3 = .ok (.lstore 4, 2) := by decide +kernel
theorem dJ9_floorDiv_f86c9_5 : decode cJ9_floorDiv_f86c9 5 = .ok (.lload_n 0, 1) := by decide +kernel
theorem dJ9_floorDiv_f86c9_6 : decode cJ9_floorDiv_f86c9 6 = .ok (.lload_n 2, 1) := by decide +kernel
theorem dJ9_floorDiv_f86c9_7 : decode cJ9_floorDiv_f86c9 7 = .ok (.lxor, 1) := by decide +kernel
theorem dJ9_floorDiv_f86c9_8 : decode cJ9_floorDiv_f86c9 8 = .ok (.lconst 0, 1) := by decide +kernel
theorem dJ9_floorDiv_f86c9_9 : decode cJ9_floorDiv_f86c9 9 = .ok (.lcmp, 1) := by decide +kernel
theorem dJ9_floorDiv_f86c9_10 : decode cJ9_floorDiv_f86c9 10 = .ok (.ifCond .ge 17, 3) := by decide +kernel
theorem dJ9_floorDiv_f86c9_13 : decode cJ9_floorDiv_f86c9 13 = .ok (.lload 4, 2) := by decide +kernel
theorem dJ9_floorDiv_f86c9_15 : decode cJ9_floorDiv_f86c9 15 = .ok (.lload_n 2, 1) := by decide +kernel
theorem dJ9_floorDiv_f86c9_16 : decode cJ9_floorDiv_f86c9 16 = .ok (.lmul, 1) := by decide +kernel
theorem dJ9_floorDiv_f86c9_17 : decode cJ9_floorDiv_f86c9 17 = .ok (.lload_n 0, 1) := by decide +kernel
